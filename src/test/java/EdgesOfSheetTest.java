/** Each sentence of "V. THE SHEET" and of VI's SHEET that names an edge, and of VI's TEXTS on cells. */
public final class EdgesOfSheetTest extends Marks {
    private static final String MOST = "1000000000000";

    public static void main(String[] args) {
        cellNames();
        cellsThatAreNone();
        emptyTexts();
        ranges();
        namesAndColumns();
        wordsWithoutABracket();
        conditions();
        brackets();
        sixtyTokens();
        sheetNumbers();
        emptyCountsAs0();
        errorOfTheFirstOperand();
        wordsAndBounds();
        sumsOfCells();
        countsOfCells();
        orderOfCells();
        rowsOfPredicates();
        sumsOfRows();
        error4();
        onlyOnePartIsLookedAt();
        rings();
        ringsByWhatIsNotLookedAt();
        allCellsInARing();
        workedByTexts();
        workedByValues();
        workedByEachCell();
        workedByRows();
        workedByEachWord();
        workedByEditions();
        workedOnce();
        pendingTexts();
        House.end();
    }

    private static String cell(int c) {
        return (char) ('A' + c % 6) + Integer.toString(c / 6 + 1);
    }

    /** The house behind one round with these texts. */
    private static House with(String... texts) {
        House h = new House();
        tell(h, texts);
        return h;
    }

    private static void tell(House h, String... texts) {
        for (String text : texts) {
            int told = h.cell(text);
            if (told < 0) {
                throw new IllegalStateException("cell() answered " + told + " for " + text);
            }
        }
        h.x.round();
    }

    /** The VALUE of a FORMULA, with A1 5, A2 -3, A3 a word, A4 ERROR 3, A5 ERROR 2, A6 ERROR 4 and all others EMPTY. */
    private static void worth(String formula, String due) {
        House h = with("A1=5", "A2=-3", "A3=word", "A4=1/0", "A5=word+1", "A6=count(nobody)", "F12=" + formula);
        House.due(formula, h.cellAt("F12"), due);
    }

    // "columns A .. F (0 .. 5), rows 1 .. 12 (0 .. 11)" "column + 6 * row"
    private static void cellNames() {
        House h = new House();
        for (int c = 0; c < 72; c++) {
            House.due("cell " + cell(c), h.cell(cell(c) + "=" + c), c);
        }
        h.x.round();
        for (int c = 0; c < 72; c++) {
            House.due("sheet of " + cell(c), h.x.sheet(c % 6, c / 6, 1), c);
        }
    }

    // "A CELL that is none (A01, A13, G1) is WRONG at its first byte."
    private static void cellsThatAreNone() {
        String[] none = {"A", "A0", "A00", "A01", "A012", "A13", "A14", "A19", "A20", "A99", "A100", "A112", "A121", "F13", "F0", "G1", "G12", "Z1", "Aa", "AA1", "A1a", "A1A", "Ab1",
            "A1234567", "A12345678", "Abcdefghi"};
        for (String name : none) {
            wrongCell("^" + name + "=1");
            wrongCell("A1=^" + name);
            wrongCell("A1=1+(^" + name + ")");
            wrongCell("A1=sum(^" + name + ":A2)");
            wrongCell("A1=count(A1:^" + name + ")");
            wrongCell("A1=if(1,^" + name + ",2)");
        }
        for (String name : new String[] {"a1", "1", "(A1)", "_", "=", "-A1", "count"}) {
            wrongCell("^" + name + "=1");
        }
        wrongCell("A1^_=1");
        wrongCell("^A 1=1");
        for (String name : new String[] {"A1", "A9", "A10", "A12", "F1", "F12", "C7"}) {
            House h = new House();
            House.due("a CELL TEXT for " + name, h.cell(name + "=1") >= 0 ? 1 : 0, 1);
            rightCell("A1=" + name);
            rightCell("A1=sum(A1:" + name + ")");
        }
    }

    // "a CELL, = and then nothing (it is EMPTY), or a FORMULA" "an empty ... CELL TEXT is WRONG"
    private static void emptyTexts() {
        wrongCell("^");
        wrongCell(" \n^");
        wrongCell("#A1=1^");
        wrongCell("A1^");
        wrongCell("A1 ^");
        rightCell("A1=");
        rightCell("A1= ");
        rightCell("A1 = # 5");
        rightCell("A1=5#+");
        wrongCell("A1=1^.");
        wrongCell("A1=1 ^B1=2");
        wrongCell("A1=^=");
        House h = with("A1=5");
        tell(h, "A1=");
        House.due("EMPTY", h.x.sheet(0, 0, 0) + h.x.sheet(0, 0, 1), 0);
        tell(h, "A1= #");
        House.due("EMPTY again", h.cellAt("A1"), "EMPTY");
    }

    // "(the second one not to the left of or above the first one, else it is WRONG at it)"
    private static void ranges() {
        for (String word : new String[] {"sum", "count"}) {
            for (String right : new String[] {"C3:C3", "C3:D3", "C3:C4", "C3:F12", "A1:F12", "A1:A12", "A1:F1"}) {
                rightCell("A1=" + word + "(" + right + ")");
            }
            for (String wrong : new String[] {"C3:^B3", "C3:^C2", "C3:^B2", "C3:^D2", "C3:^B4", "C3:^A12", "C3:^F1", "F12:^A1", "B1:^A12", "A2:^F1", "A10:^A9"}) {
                wrongCell("A1=" + word + "(" + wrong + ")");
            }
            wrongCell("A1=" + word + "(A1^)");
            wrongCell("A1=" + word + "(A1:A2^:A3)");
            wrongCell("A1=" + word + "(A1:A2^,1)");
            wrongCell("A1=" + word + "(A1:^1)");
            wrongCell("A1=" + word + "(A1:^e)");
            wrongCell("A1=" + word + "(^(A1:A2))");
        }
        wrongCell("A1=least(^A1:A2)");
        wrongCell("A1=most(^A1:A2)");
        wrongCell("A1=if(A1^:A2,1,2)");
    }

    // "count ( NAME ); sum ( NAME , k ), least ( NAME , k ), most ( NAME , k ), k 1 .. 4"
    private static void namesAndColumns() {
        rightCell("A1=count(e)");
        wrongCell("A1=count(^)");
        wrongCell("A1=count(e^,1)");
        wrongCell("A1=count(^1)");
        wrongCell("A1=count(^_)");
        for (String word : new String[] {"sum", "least", "most"}) {
            for (int k = 1; k <= 4; k++) {
                rightCell("A1=" + word + "(e," + k + ")");
            }
            for (String k : new String[] {"0", "5", "10", "01", "14", "4294967297", "1000000000001"}) {
                wrongCell("A1=" + word + "(e,^" + k + ")");
            }
            wrongCell("A1=" + word + "(e,^-1)");
            wrongCell("A1=" + word + "(e,^A1)");
            wrongCell("A1=" + word + "(e,^a)");
            wrongCell("A1=" + word + "(e,1^+1)");
            wrongCell("A1=" + word + "(e^)");
            wrongCell("A1=" + word + "(e^:1)");
            wrongCell("A1=" + word + "(e,1^,1)");
            wrongCell("A1=" + word + "(^)");
        }
    }

    // "if, sum, count, least, most without ( behind are no VALUES in a FORMULA"
    private static void wordsWithoutABracket() {
        for (String word : new String[] {"if", "sum", "count", "least", "most"}) {
            wrongCell("A1=" + word + "^");
            wrongCell("A1=" + word + " ^");
            wrongCell("A1=" + word + "^+1");
            wrongCell("A1=1+" + word + "^)");
            wrongCell("A1=(" + word + "^)");
            wrongCell("A1=if(1," + word + "^,2)");
            wrongCell("A1=" + word + " ^A1");
            rightCell("A1=" + word + "s");
            rightCell("A1=x" + word);
        }
        rightCell("A1=i");
        // A word that is a VALUE takes no bracket.
        wrongCell("A1=abc^(1)");
        wrongCell("A1=iff^(1,2,3)");
    }

    // "if ( FORMULA , FORMULA , FORMULA )"
    private static void conditions() {
        rightCell("A1=if(1,2,3)");
        rightCell("A1=if (A1+1,(2),if(a,b,c))*2");
        wrongCell("A1=if(^)");
        wrongCell("A1=if(1^)");
        wrongCell("A1=if(1,^)");
        wrongCell("A1=if(1,2^)");
        wrongCell("A1=if(1,2,^)");
        wrongCell("A1=if(1,2,3^,4)");
        wrongCell("A1=if(^,2,3)");
        wrongCell("A1=if(1,^,3)");
        wrongCell("A1=if(1^<2,3,4)");
        wrongCell("A1=if(1^:2,3,4)");
        wrongCell("A1=if((1^,2),3,4)");
        wrongCell("A1=if(1,2,3)^)");
        wrongCell("A1=if(1,2,3)^(");
    }

    // "all its ( count for the four"
    private static void brackets() {
        rightCell("A1=((((1))))");
        wrongCell("A1=((((^(1)))))");
        rightCell("A1=(((sum(A1:A2))))");
        wrongCell("A1=((((sum^(A1:A2)))))");
        rightCell("A1=(((count(e))))");
        wrongCell("A1=((((count^(e)))))");
        rightCell("A1=(((least(e,1))))");
        wrongCell("A1=((((least^(e,1)))))");
        wrongCell("A1=((((most^(e,1)))))");
        rightCell("A1=(((if(1,2,3))))");
        wrongCell("A1=((((if^(1,2,3)))))");
        rightCell("A1=if(if(if(if(1,2,3),2,3),2,3),2,3)");
        wrongCell("A1=if(if(if(if(^(1),2,3),2,3),2,3),2,3)");
        rightCell("A1=if(1,2,if(1,2,if(1,2,if(1,2,3))))");
        wrongCell("A1=if(1,2,if(1,2,if(1,2,if(1,2,^(3)))))");
        wrongCell("A1=if(1,if(1,if(1,if(1,if^(1,2,3),3),3),3),3)");
        rightCell("A1=if((((1))),(((2))),(((3))))");
        rightCell("A1=((((1))))+((((2))))*sum(A1:A2)+(((count(e))))");
        // What is closed doesn't count.
        rightCell("A1=if(1,if(1,if(1,(1),2),3),4)+if(1,if(1,if(1,(1),2),3),4)");
    }

    // "At most 60 TOKENS behind the =." "The 61st TOKEN is WRONG at its first byte, whatever it is."
    private static void sixtyTokens() {
        String full = "1" + "+1".repeat(29);
        rightCell("A1=" + full);
        rightCell("A1=-" + full);
        wrongCell("A1=" + full + "+^1");
        wrongCell("A1=-" + full + "^+1");
        wrongCell("A1=-" + full + " ^+1");
        rightCell("A1=-" + full + " # not one more");
        rightCell("A1 = -" + full.replace("+", " + "));
        for (String any : new String[] {"1", "A1", "G1", "A01", "abc", "abcdefghi", LONG_NAME + "m", "Abcdefghi", "!", "!=", "_", "$", "(", "sum", "sum(A1:A2)", ":-", "1000000000001", "-1", "- 1"}) {
            wrongCell("A1=" + full + "+^" + any);
        }
        // An earlier one that can't stand goes ahead.
        wrongCell("A1=" + full.substring(0, 55) + "^)" + full.substring(0, 20));
        // sum ( A1 : A2 ) are six, -1 two.
        String eight = "sum(A1:A2)+".repeat(8);
        rightCell("A1=" + eight + "-1+1");
        wrongCell("A1=" + eight + "-1+1^+1");
        wrongCell("A1=" + eight + "sum(A1:^A2)");
    }

    // "NoSuchElementException: there is no such cell; NONE for another what."
    private static void sheetNumbers() {
        House h = with("A1=7", "F12=word", "B1=1/0");
        long[][] due = {{0, 0, 1, 7, 1}, {5, 11, 1, House.value("word"), 1}, {1, 0, 2, 3, 1}, {0, 11, 0, 0, 0}, {5, 0, 0, 0, 0}};
        for (long[] one : due) {
            for (int what = 0; what < 3; what++) {
                House.due("sheet(" + one[0] + ", " + one[1] + ", " + what + ")", h.x.sheet((int) one[0], (int) one[1], what), one[2 + what]);
            }
            for (int what : new int[] {-1, 3, Integer.MIN_VALUE, Integer.MAX_VALUE}) {
                House.due("what " + what, h.x.sheet((int) one[0], (int) one[1], what), NONE);
            }
        }
        int[][] none = {{-1, 0}, {6, 0}, {0, -1}, {0, 12}, {6, 12}, {Integer.MIN_VALUE, 0}, {Integer.MAX_VALUE, 0}, {0, Integer.MIN_VALUE}, {0, Integer.MAX_VALUE}, {-6, 1}, {12, -1}};
        for (int[] one : none) {
            for (int what = -1; what <= 3; what++) {
                int asked = what;
                House.throwsNone("sheet(" + one[0] + ", " + one[1] + ", " + what + ")", () -> h.x.sheet(one[0], one[1], asked));
            }
        }
    }

    // "Of a CELL in a FORMULA: EMPTY counts as 0." "A FORMULA that is a CELL alone has 0 of an EMPTY one."
    private static void emptyCountsAs0() {
        worth("B1", "0");
        worth("(B1)", "0");
        worth("B1+1", "1");
        worth("1-B1", "1");
        worth("B1*5", "0");
        worth("B1/5", "0");
        worth("1/B1", "ERROR 3");
        worth("1%B1", "ERROR 3");
        worth("if(B1,1,2)", "2");
        worth("if(1,B1,2)", "0");
        House h = with("A1=B1");
        House.due("it is a value", h.x.sheet(0, 0, 0), 1);
        House.due("the other one is EMPTY", h.x.sheet(1, 0, 0), 0);
    }

    // "An ERROR of the first operand that has one is the answer's."
    private static void errorOfTheFirstOperand() {
        String[] errors = {"A4", "A5", "A6"};
        String[] due = {"ERROR 3", "ERROR 2", "ERROR 4"};
        for (int i = 0; i < 3; i++) {
            worth(errors[i], due[i]);
            for (String sign : new String[] {"+", "-", "*", "/", "%"}) {
                worth(errors[i] + sign + "1", due[i]);
                worth("1" + sign + errors[i], due[i]);
                worth(errors[i] + sign + "0", due[i]);
                worth("0" + sign + errors[i], due[i]);
                worth("A3" + sign + errors[i], due[i]);
                worth(errors[i] + sign + "A3", due[i]);
                worth("1" + sign + errors[i] + sign + errors[(i + 1) % 3], due[i]);
                worth(errors[i] + sign + errors[(i + 1) % 3], due[i]);
                worth("1" + sign + "(2" + sign + errors[i] + ")", due[i]);
            }
            // Strength tells which operand is the first one.
            worth("1+" + errors[i] + "*" + errors[(i + 2) % 3], due[i]);
            worth("(1+" + errors[(i + 1) % 3] + ")*" + errors[i], due[(i + 1) % 3]);
        }
        worth("A3+1+A4", "ERROR 2");
        worth("1/0+A5", "ERROR 3");
    }

    // "+ - * / %: ERROR 2 of a word, 3 by 0, and out of bounds." "ERROR 2 ahead of 3."
    private static void wordsAndBounds() {
        for (String sign : new String[] {"+", "-", "*", "/", "%"}) {
            worth("a" + sign + "1", "ERROR 2");
            worth("1" + sign + "a", "ERROR 2");
            worth("a" + sign + "0", "ERROR 2");
            worth("0" + sign + "a", "ERROR 2");
            worth("A3" + sign + "B1", "ERROR 2");
        }
        worth("1/0", "ERROR 3");
        worth("0/0", "ERROR 3");
        worth("1%0", "ERROR 3");
        worth(MOST + "+0", MOST);
        worth("999999999999+1", MOST);
        worth(MOST + "+1", "ERROR 3");
        worth("-" + MOST + "-0", "-" + MOST);
        worth("-999999999999-1", "-" + MOST);
        worth("-" + MOST + "-1", "ERROR 3");
        worth("1000000*1000000", MOST);
        worth("1000000*1000001", "ERROR 3");
        worth("-1000000*1000000", "-" + MOST);
        worth("-1000000*1000001", "ERROR 3");
        worth(MOST + "*" + MOST, "ERROR 3");
        worth(MOST + "*-" + MOST, "ERROR 3");
        worth(MOST + "+1-1", "ERROR 3");
        worth("-7/2", "-3");
        worth("7/-2", "-3");
        worth("-7%2", "-1");
        worth("7%-2", "1");
    }

    // "sum of cells: of the numbers in them (words and EMPTY ones left out; 3 out of bounds)" "A sum is out of bounds as a whole; ... an ERROR of a cell (the first) goes ahead of that"
    private static void sumsOfCells() {
        worth("sum(A1:A3)", "2");
        worth("sum(A3:A3)", "0");
        worth("sum(B1:E12)", "0");
        worth("sum(A1:A1)", "5");
        worth("sum(A1:A4)", "ERROR 3");
        worth("sum(A5:A6)", "ERROR 2");
        worth("sum(A4:A6)", "ERROR 3");
        House h = with("A1=999999999999", "A2=1", "A3=1", "A4=-1", "A5=word", "B1=sum(A1:A2)", "B2=sum(A1:A3)", "B3=sum(A1:A4)", "B4=sum(A1:A5)");
        House.due("at the bound", h.cellAt("B1"), MOST);
        House.due("one more", h.cellAt("B2"), "ERROR 3");
        House.due("on the way alone", h.cellAt("B3"), MOST);
        House.due("words left out", h.cellAt("B4"), MOST);
        House l = with("A1=-999999999999", "A2=-1", "A3=-1", "A4=1", "B1=sum(A1:A2)", "B2=sum(A1:A3)", "B3=sum(A1:A4)");
        House.due("at the lower bound", l.cellAt("B1"), "-" + MOST);
        House.due("one less", l.cellAt("B2"), "ERROR 3");
        House.due("on the way alone", l.cellAt("B3"), "-" + MOST);
        House m = with("A1=-" + MOST, "A2=" + MOST, "B1=sum(A1:A1)", "B2=sum(A1:A2)", "B3=count(A1:A2)", "B4=A1", "B5=A1+0", "B6=zzzzzzzz", "B7=B6");
        House.due("the least number is no ERROR", m.cellAt("B1") + " " + m.cellAt("B2") + " " + m.cellAt("B3"), "-" + MOST + " 0 2");
        House.due("nor is it as an operand", m.cellAt("B4") + " " + m.cellAt("B5") + " " + m.x.sheet(0, 0, 0), "-" + MOST + " -" + MOST + " 1");
        House.due("nor is the greatest word", m.cellAt("B6") + " " + m.cellAt("B7") + " " + m.x.sheet(1, 5, 0), "zzzzzzzz zzzzzzzz 1");
        House e = with("A1=" + MOST, "A2=" + MOST, "A3=a+1", "A4=count(nobody)", "B1=sum(A1:A4)", "B2=sum(A1:A2)+A3");
        House.due("an ERROR of a cell goes ahead", e.cellAt("B1"), "ERROR 2");
        House.due("but as an operand the sum's does", e.cellAt("B2"), "ERROR 3");
        House all = new House();
        for (int c = 1; c < 72; c++) {
            all.cell(cell(c) + "=" + c);
        }
        all.cell("A1=sum(B1:F12)");
        all.x.round();
        House.due("a sum of 60 cells", all.cellAt("A1"), Integer.toString(71 * 72 / 2 - 6 * 66));
    }

    // "count of cells: of those that are not EMPTY (an ERROR as told)"
    private static void countsOfCells() {
        worth("count(A1:A3)", "3");
        worth("count(B1:E12)", "0");
        worth("count(A1:E3)", "3");
        worth("count(A1:A4)", "ERROR 3");
        worth("count(A5:A6)", "ERROR 2");
        House h = with("A1=", "A2=0", "A3=B9", "A4=a", "B1=count(A1:A4)", "B2=count(A1:A1)");
        House.due("0 is not EMPTY", h.cellAt("B1"), "3");
        House.due("EMPTY", h.cellAt("B2"), "0");
        tell(h, "A2=");
        House.due("one less", h.cellAt("B1"), "2");
    }

    // "by columns of the first row, then the next; an ERROR as told"
    private static void orderOfCells() {
        for (String word : new String[] {"sum", "count"}) {
            House h = with("B1=1/0", "A2=a+1", "C1=" + word + "(A1:B2)", "C2=" + word + "(A2:B2)", "C3=" + word + "(A1:A2)", "C4=" + word + "(B1:B2)");
            House.due("the first row goes ahead", h.cellAt("C1"), "ERROR 3");
            House.due("the next one", h.cellAt("C2"), "ERROR 2");
            House.due("the first column alone", h.cellAt("C3"), "ERROR 2");
            House.due("the second column alone", h.cellAt("C4"), "ERROR 3");
            House g = with("A1=a+1", "B1=1/0", "C1=" + word + "(A1:B1)");
            House.due("columns of one row", g.cellAt("C1"), "ERROR 2");
        }
    }

    /** A house with rows of e, and a FORMULA over them. */
    private static void overRows(String rows, String formula, String due) {
        House h = new House();
        h.program("input e/2. input none/4. p(X):-e(X,_).");
        h.change(rows);
        h.cell("A1=" + formula);
        h.x.round();
        House.due(formula + " of " + rows, h.cellAt("A1"), due);
    }

    // "count of a NAME: its rows; sum, least, most of its k-th values" "least, most of no rows answer 0"
    private static void rowsOfPredicates() {
        String rows = "+e(3,a). +e(-4,b). +e(c,7). +e(ca,-7).";
        overRows(rows, "count(e)", "4");
        overRows(rows, "count(p)", "4");
        overRows(rows, "count(none)", "0");
        overRows(rows, "least(e,1)", "-4");
        overRows(rows, "most(e,1)", "ca");
        overRows(rows, "least(e,2)", "-7");
        overRows(rows, "most(e,2)", "b");
        overRows(rows, "least(none,1)", "0");
        overRows(rows, "most(none,4)", "0");
        overRows(rows, "sum(none,4)", "0");
        overRows("+e(a,b).", "least(e,1)", "a");
        overRows("+e(a,b).", "most(e,2)", "b");
        overRows("+e(-5,b).", "most(e,1)", "-5");
        overRows("+e(5,b).", "least(e,1)", "5");
        House h = new House();
        h.program("input none/1.");
        tell(h, "A1=least(none,1)", "B1=count(A1:A1)");
        House.due("that 0 is a value", h.x.sheet(0, 0, 0), 1);
        House.due("it is no EMPTY cell", h.cellAt("B1"), "1");
    }

    // "(sum as for cells ...)"
    private static void sumsOfRows() {
        overRows("+e(3,a). +e(-4,b). +e(c,7).", "sum(e,1)", "-1");
        overRows("+e(3,a). +e(-4,b).", "sum(e,2)", "0");
        overRows("+e(1,999999999999). +e(2,1).", "sum(e,2)", MOST);
        overRows("+e(1,999999999999). +e(2,2).", "sum(e,2)", "ERROR 3");
        overRows("+e(1,-999999999999). +e(2,-1).", "sum(e,2)", "-" + MOST);
        overRows("+e(1,-999999999999). +e(2,-2).", "sum(e,2)", "ERROR 3");
        overRows("+e(1," + MOST + "). +e(2,1). +e(3,-1).", "sum(e,2)", MOST);
        // Rows count, not different values.
        overRows("+e(1,5). +e(2,5).", "sum(e,2)", "10");
    }

    // "ERROR 4 if the program has no such predicate, or k is above its n"
    private static void error4() {
        overRows("", "count(nobody)", "ERROR 4");
        overRows("", "sum(nobody,1)", "ERROR 4");
        for (String word : new String[] {"sum", "least", "most"}) {
            overRows("+e(1,1).", word + "(e,2)", "1");
            overRows("+e(1,1).", word + "(e,3)", "ERROR 4");
            overRows("+e(1,1).", word + "(e,4)", "ERROR 4");
            overRows("+e(1,1).", word + "(p,1)", "1");
            overRows("+e(1,1).", word + "(p,2)", "ERROR 4");
            overRows("+e(1,1).", word + "(none,4)", "0");
        }
        House h = new House();
        h.program("input e/1.");
        tell(h, "A1=count(e)", "B1=count(f)", "C1=sum(e,2)");
        House.due("ahead", h.cellAt("A1") + " " + h.cellAt("B1") + " " + h.cellAt("C1"), "0 ERROR 4 ERROR 4");
        h.start("input f/1. e(1,2).", "");
        House.due("with another EDITION", h.cellAt("A1") + " " + h.cellAt("B1") + " " + h.cellAt("C1"), "1 0 2");
        h.start("", "");
        House.due("with none", h.cellAt("A1") + " " + h.cellAt("B1") + " " + h.cellAt("C1"), "ERROR 4 ERROR 4 ERROR 4");
    }

    // "if: the first one is not 0 (a word isn't): the second, else the third; the other one is not looked at." "The ERROR of the first part of if is the answer."
    private static void onlyOnePartIsLookedAt() {
        worth("if(1,2,3)", "2");
        worth("if(-1,2,3)", "2");
        worth("if(0,2,3)", "3");
        worth("if(-0,2,3)", "3");
        worth("if(a,2,3)", "2");
        worth("if(" + MOST + ",2,3)", "2");
        worth("if(-" + MOST + ",2,3)", "2");
        worth("if(1,2,A4)", "2");
        worth("if(0,A4,3)", "3");
        worth("if(1,A4,3)", "ERROR 3");
        worth("if(0,2,A5)", "ERROR 2");
        worth("if(A4,2,3)", "ERROR 3");
        worth("if(A5,A4,A4)", "ERROR 2");
        worth("if(A6,2,3)", "ERROR 4");
        worth("if(1/0,2,3)+A5", "ERROR 3");
        worth("A5+if(1/0,2,3)", "ERROR 2");
        worth("1+if(A4,2,3)*2", "ERROR 3");
        worth("if(if(0,A4,0),A5,if(1,a,A4))", "a");
        worth("if(0,1,2)+if(1,3,4)*if(0,5,6)", "20");
        worth("if(1,if(1,if(1,if(1,7,A4),A4),A4),A4)", "7");
        worth("if(0,A4,if(0,A4,if(0,A4,if(0,A4,8))))", "8");
        worth("10-if(1,2,3)-if(0,2,3)", "5");
        worth("if(A1-5,1,2)", "2");
    }

    // "A cell that reads itself, round about, has ERROR 1, whatever else."
    private static void rings() {
        House h = with("A1=A1", "B1=C1", "C1=B1", "D1=E1", "E1=F1", "F1=D1", "A2=A1+1", "B2=1+C1", "C2=if(B1,1,2)", "D2=sum(D1:F1)", "E2=count(A1:A1)", "F2=A1/0");
        for (String cell : new String[] {"A1", "B1", "C1", "D1", "E1", "F1"}) {
            House.due("itself, round about: " + cell, h.cellAt(cell), "ERROR 1");
        }
        for (String cell : new String[] {"A2", "B2", "C2", "D2", "E2", "F2"}) {
            House.due("reads one: " + cell, h.cellAt(cell), "ERROR 1");
        }
        House.due("whatever else: another ERROR ahead", with("A1=1/0+A1").cellAt("A1"), "ERROR 1");
        House.due("whatever else: a word", with("A1=a+1+A1").cellAt("A1"), "ERROR 1");
        House.due("whatever else: no such NAME", with("A1=count(nobody)+A1").cellAt("A1"), "ERROR 1");
        House.due("by a range that it is in", with("B2=sum(A1:C3)").cellAt("B2"), "ERROR 1");
        House.due("at the edge of a range", with("C3=sum(A1:C3)").cellAt("C3"), "ERROR 1");
        House.due("beside a range", with("D3=sum(A1:C3)").cellAt("D3"), "0");
        House.due("below a range", with("C4=count(A1:C3)").cellAt("C4"), "0");
        House.due("left of a range", with("A2=count(B1:C3)").cellAt("A2"), "0");
        House.due("a cell that only is read by a ring", with("A1=A1+B1", "B1=4").cellAt("B1"), "4");
        tell(h, "A1=3", "C1=4");
        House.due("out of the ring", h.cellAt("A1") + h.cellAt("B1") + h.cellAt("C1") + h.cellAt("A2") + h.cellAt("B2"), "34445");
    }

    // "A cell READS all cells and predicates in its FORMULA (also those not looked at)."
    private static void ringsByWhatIsNotLookedAt() {
        House.due("the third part", with("A1=if(1,5,A1)").cellAt("A1"), "ERROR 1");
        House.due("the second part", with("A1=if(0,A1,5)").cellAt("A1"), "ERROR 1");
        House.due("behind an ERROR", with("A1=1/0+if(0,A1,5)").cellAt("A1"), "ERROR 1");
        House.due("by another cell", with("A1=if(1,5,B1)", "B1=A1").cellAt("A1"), "ERROR 1");
        House.due("a ring that is not looked at", with("A1=if(1,5,B1)", "B1=B1").cellAt("A1"), "5");
        House.due("an ERROR that is not looked at", with("A1=if(0,B1,5)", "B1=1/0").cellAt("A1"), "5");
    }

    private static void allCellsInARing() {
        House h = new House();
        for (int c = 0; c < 72; c++) {
            h.cell(cell(c) + "=" + cell((c + 1) % 72) + "+1");
        }
        h.x.round();
        for (int c = 0; c < 72; c++) {
            House.due("a ring of 72: " + cell(c), h.cellAt(cell(c)), "ERROR 1");
        }
        tell(h, "F12=1");
        House.due("a chain of 72", h.cellAt("A1"), "72");
        House.due("the last but one", h.cellAt("E12"), "2");
        House.due("WORKED", h.worked("A1"), 2);
    }

    private static void dueWorked(House h, String what, long... counts) {
        for (int c = 0; c < counts.length; c++) {
            House.due(what + ": WORKED " + cell(c), h.worked(cell(c)), counts[c]);
        }
    }

    // "if it is no EMPTY one and its text is new" "A text that is the same again is a new one." "A cell that becomes EMPTY isn't WORKED; counts stay as they were then."
    private static void workedByTexts() {
        House h = with("A1=5", "B1=");
        dueWorked(h, "first", 1, 0, 0);
        tell(h, "A1=5");
        dueWorked(h, "the same again", 2, 0, 0);
        h.x.round();
        dueWorked(h, "no text", 2, 0, 0);
        tell(h, "A1=");
        dueWorked(h, "EMPTY", 2, 0, 0);
        tell(h, "A1=");
        dueWorked(h, "EMPTY again", 2, 0, 0);
        tell(h, "A1=7", "B1=1");
        dueWorked(h, "a text again", 3, 1, 0);
    }

    // "or the VALUE of a cell ... that it reads" is CHANGED; "EMPTY and 0 are two VALUES where CHANGED is asked"
    private static void workedByValues() {
        House h = with("A1=5", "B1=A1", "C1=A1*0", "D1=C1", "E1=if(1,2,A1)", "F1=sum(A1:A2)");
        dueWorked(h, "first", 1, 1, 1, 1, 1, 1);
        tell(h, "A1=5");
        dueWorked(h, "the same VALUE", 2, 1, 1, 1, 1, 1);
        tell(h, "A1=6");
        dueWorked(h, "another VALUE", 3, 2, 2, 1, 2, 2);
        tell(h, "A1=0");
        dueWorked(h, "0", 4, 3, 3, 1, 3, 3);
        tell(h, "A1=");
        dueWorked(h, "EMPTY is another than 0", 4, 4, 4, 1, 4, 4);
        tell(h, "A1=");
        dueWorked(h, "EMPTY is EMPTY", 4, 4, 4, 1, 4, 4);
        tell(h, "A1=0");
        dueWorked(h, "0 is another than EMPTY", 5, 5, 5, 1, 5, 5);
        tell(h, "A1=a");
        dueWorked(h, "a word: C1 has an ERROR, so D1 is WORKED", 6, 6, 6, 2, 6, 6);
        tell(h, "A1=b");
        dueWorked(h, "another word: C1 has the same ERROR", 7, 7, 7, 2, 7, 7);
        tell(h, "A1=1/0");
        dueWorked(h, "another ERROR", 8, 8, 8, 3, 8, 8);
        tell(h, "A2=4");
        dueWorked(h, "a cell of a range", 8, 8, 8, 3, 8, 9);
        tell(h, "A3=4");
        dueWorked(h, "a cell beside it", 8, 8, 8, 3, 8, 9);
    }

    /** Each of the 72 cells, read by one cell alone, by itself and in a range. */
    private static void workedByEachCell() {
        for (int c = 0; c < 72; c++) {
            String reader = cell((c + 35) % 72);
            String second = cell((c + 36) % 72);
            String next = cell((c + 37) % 72);
            House h = with(cell(c) + "=1", reader + "=" + cell(c) + "+1", second + "=sum(" + cell(c) + ":" + cell(c) + ")", next + "=" + cell((c + 1) % 72));
            House.due(cell(c) + " is read", h.cellAt(reader) + h.cellAt(second) + h.cellAt(next), "210");
            tell(h, cell(c) + "=5");
            House.due(cell(c) + " is read again", h.cellAt(reader) + h.cellAt(second) + h.cellAt(next), "650");
            House.due("WORKED by " + cell(c), h.worked(reader) * 100 + h.worked(second) * 10 + h.worked(next), 221);
            tell(h, cell(c) + "=5");
            House.due("not WORKED by " + cell(c), h.worked(reader) * 100 + h.worked(second) * 10 + h.worked(next), 221);
            tell(h, cell((c + 1) % 72) + "=7");
            House.due("WORKED by the next one alone", h.worked(reader) * 100 + h.worked(second) * 10 + h.worked(next), 222);
            tell(h, cell(c) + "=" + second);
            House.due("a ring", h.cellAt(cell(c)) + h.cellAt(second), "ERROR 1ERROR 1");
            tell(h, second + "=if(1,7," + cell(c) + ")");
            House.due("a ring by what is not looked at", h.cellAt(cell(c)) + h.cellAt(second), "ERROR 1ERROR 1");
            tell(h, cell(c) + "=if(0," + second + ",8)");
            House.due("both not looked at", h.cellAt(cell(c)) + h.cellAt(second), "ERROR 1ERROR 1");
        }
    }

    // "or the rows of a predicate that it reads are CHANGED"
    private static void workedByRows() {
        House h = new House();
        h.program("input e/1. input f/1. p(X):-e(X),X<5.");
        tell(h, "A1=count(e)", "B1=count(p)", "C1=if(1,0,sum(f,1))", "D1=A1", "E1=count(nobody)", "F1=1");
        dueWorked(h, "first", 1, 1, 1, 1, 1, 1);
        h.x.round();
        dueWorked(h, "nothing", 1, 1, 1, 1, 1, 1);
        h.round("+e(7).");
        dueWorked(h, "e alone", 2, 1, 1, 2, 1, 1);
        h.round("+e(8). -e(7).");
        dueWorked(h, "the same count", 3, 1, 1, 2, 1, 1);
        h.round("+f(1).");
        dueWorked(h, "not looked at", 3, 1, 2, 2, 1, 1);
        h.round("+e(8). -f(2).");
        dueWorked(h, "not CHANGED", 3, 1, 2, 2, 1, 1);
        h.round("+e(1).");
        dueWorked(h, "e and p", 4, 2, 2, 3, 1, 1);
    }

    private static void workedByEachWord() {
        String[] formulas = {"count(e)", "sum(e,1)", "least(e,1)", "most(e,1)", "1+count(e)", "if(0,most(e,1),2)", "if(least(e,1),1,2)"};
        for (String formula : formulas) {
            House h = new House();
            h.program("input f/1. input e/1.");
            tell(h, "A1=" + formula);
            h.round("+f(1).");
            House.due(formula + ": another predicate", h.worked("A1"), 1);
            h.round("+e(1).");
            House.due(formula + ": its rows", h.worked("A1"), 2);
            h.start("input f/1. input e/1.", "");
            House.due(formula + ": the EDITION", h.worked("A1"), 3);
        }
    }

    // "or the EDITION is new and it reads a NAME"
    private static void workedByEditions() {
        House h = new House();
        h.program("input e/1.");
        tell(h, "A1=count(e)", "B1=A1", "C1=if(1,1,count(nobody))", "D1=5", "E1=sum(A1:A1)");
        dueWorked(h, "first", 1, 1, 1, 1, 1);
        h.start("input e/1.", "");
        dueWorked(h, "the same text", 2, 1, 2, 1, 1);
        h.start("input e/1.", "+e(1).");
        dueWorked(h, "and a VALUE CHANGED", 3, 2, 3, 1, 2);
        h.program("e(0). e(X+1):-e(X).");
        House.due("REFUSED", h.x.round(), -1);
        dueWorked(h, "none", 3, 2, 3, 1, 2);
        h.x.back(1);
        dueWorked(h, "BACK is no round", 3, 2, 3, 1, 2);
    }

    // "A cell is WORKED in a round, once"
    private static void workedOnce() {
        House h = new House();
        h.start("input e/1.", "");
        tell(h, "A1=count(e)", "B1=A1+count(e)", "C1=A1+B1+count(e)");
        h.cell("C1=A1+B1+count(e)*1");
        h.program("input e/1.");
        h.change("+e(1).");
        h.x.round();
        dueWorked(h, "by text, VALUES, rows and EDITION", 2, 2, 2);
        House.due("C1", h.cellAt("C1"), "4");
    }

    // "A CELL TEXT comes to PENDING (in place of one for this cell)"
    private static void pendingTexts() {
        House h = new House();
        House.due("A1", h.cell("A1=1"), 0);
        House.due("A1 again", h.cell("A1=2"), 0);
        House.due("F12", h.cell("F12=3"), 71);
        House.due("nothing yet", h.cellAt("A1") + h.cellAt("F12"), "EMPTYEMPTY");
        House.due("no CHANGES", h.x.count(4), 0);
        House.due("a WRONG one", h.cell("A1=3!"), -1 - 4);
        House.due("the round", h.x.round(), 0);
        House.due("the second one", h.cellAt("A1") + h.cellAt("F12"), "23");
        House.due("WORKED once", h.worked("A1"), 1);
        h.cell("A1=5");
        h.cell("A1=");
        h.x.round();
        House.due("an EMPTY one in place of another", h.cellAt("A1"), "EMPTY");
        h.cell("A1=5");
        h.x.line(1);
        h.x.round();
        House.due("of its line", h.cellAt("A1"), "EMPTY");
        h.x.line(0);
        h.x.round();
        House.due("of its line", h.cellAt("A1"), "5");
    }
}

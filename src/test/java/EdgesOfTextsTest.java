/** Each sentence of "I. TEXTS" and of VI's TEXTS that names an edge: at the edge, and one step to each side of it. */
public final class EdgesOfTextsTest extends Marks {
    private static final String NINE_LETTERS = "abcdefghi";
    private static final String TRILLION = "1000000000000";
    private static final String MORE = "1000000000001";

    public static void main(String[] args) {
        everyByteAlone();
        everyByteBehindAHead();
        everyByteInARemark();
        everyByteInsideAText();
        blanks();
        remarks();
        fullTape();
        bytesBehindTheEnd();
        placesAtTheEnd();
        numbersInBounds();
        numbersWithA0Ahead();
        minus();
        words();
        names();
        variables();
        anyAlone();
        twoByteSigns();
        statements();
        inputWidths();
        inputKeys();
        keptWordsAreNoNames();
        keptWordsAreNoValues();
        items();
        gatheringItems();
        terms();
        signs();
        expressions();
        brackets();
        sixteenNames();
        twentyFourRules();
        eightLiterals();
        threeAtoms();
        eightVariables();
        namesAtTheBeginningOfALiteral();
        tooManySignsAndOneTooMany();
        numbering();
        queries();
        changes();
        House.end();
    }

    /** A house whose program has an INPUT e/1 and one f/2, both empty. */
    private static House house() {
        House h = new House();
        h.start("input e/1. input f/2.", "");
        return h;
    }

    private static boolean isBlank(int b) {
        return b == 9 || b == 10 || b == 13 || b == 32;
    }

    private static boolean isSmall(int b) {
        return b >= 'a' && b <= 'z';
    }

    private static boolean isDigit(int b) {
        return b >= '0' && b <= '9';
    }

    private static boolean isGreat(int b) {
        return b >= 'A' && b <= 'Z';
    }

    private static String of(int b) {
        return Character.toString((char) b);
    }

    // "BYTES are 0 .. 255." "Blanks are 9, 10, 13, 32, and from # up to 10 or the end."
    private static void everyByteAlone() {
        for (int b = 0; b <= 255; b++) {
            // A NAME could go on, so its end is what can't stand.
            int due = isBlank(b) || b == '#' ? 0 : isSmall(b) ? -2 : -1;
            House.due("program() of the byte " + b, new House().program(of(b)), due);
            House.due("change() of the byte " + b, new House().change(of(b)), b == '+' || b == '-' ? -2 : isBlank(b) || b == '#' ? 0 : -1);
            // An empty QUERY or CELL TEXT is WRONG at its end.
            House.due("cell() of the byte " + b, new House().cell(of(b)), isBlank(b) || b == '#' ? -2 : -1);
            boolean begins = isSmall(b) || isGreat(b) || isDigit(b) || b == '(' || isBlank(b) || b == '#';
            House.due("query() of the byte " + b, new House().query(of(b)), begins ? -2 : -1);
        }
    }

    private static void everyByteBehindAHead() {
        for (int b = 0; b <= 255; b++) {
            int due = b == '.' ? 1 : isBlank(b) || b == '#' ? -6 : -5;
            House.due("program() of p(1) and the byte " + b, new House().program("p(1)" + of(b)), due);
            due = isBlank(b) || b == '#' ? 1 : isSmall(b) ? -7 : -6;
            House.due("program() of p(1). and the byte " + b, new House().program("p(1)." + of(b)), due);
        }
    }

    private static void everyByteInARemark() {
        for (int b = 0; b <= 255; b++) {
            House.due("program() of a remark with the byte " + b, new House().program("#" + of(b) + "p(1)."), b == 10 ? 1 : 0);
        }
    }

    private static void everyByteInsideAText() {
        for (int b = 0; b <= 255; b++) {
            boolean inName = isSmall(b) || isDigit(b) || b == '_';
            // A digit makes a number of it, a sign an EXPRESSION; a # hides the rest.
            boolean joins = isDigit(b) || "+*/%,-".indexOf(b) >= 0;
            int due = joins ? 1 : isBlank(b) || b == ')' ? -5 : b == '#' ? -8 : -4;
            House.due("program() of p(1?2). with the byte " + b, new House().program("p(1" + of(b) + "2)."), due);
            due = inName || isBlank(b) ? 1 : b == '#' ? -7 : b == '(' ? -6 : -2;
            House.due("program() of p?(1). with the byte " + b, new House().program("p" + of(b) + "(1)."), due);
            boolean inVariable = isSmall(b) || isDigit(b) || isGreat(b);
            due = inVariable || isBlank(b) ? 0 : b == '#' ? -14 : b == ',' || b == ')' ? -5 : -4;
            House.due("query() of e(X?), 1 = 1. with the byte " + b, house().query("e(X" + of(b) + "), 1 = 1."), due);
        }
    }

    private static void blanks() {
        for (int b : new int[] {9, 10, 13, 32}) {
            String s = of(b);
            rightProgram((s + "input e / 2 key 1 . output e . p ( X ) :- e ( X , _ ) , not e ( 1 , 1 ) . " + s).replace(" ", s), 1);
        }
        for (int b : new int[] {8, 11, 12, 14, 31, 127, 133, 160}) {
            wrongProgram("p(1)^" + of(b) + ".");
        }
        // None is needed where TOKENS are told apart without it, but NAMES and words want it.
        rightProgram("input e/2key 1.", 0);
        wrongProgram("input e/2 ^key1.");
        wrongProgram("inpute^/1.");
        wrongProgram("p(1):-notq(1)^");
    }

    // "from # up to 10 or the end"
    private static void remarks() {
        rightProgram("p(1).#", 1);
        rightProgram("p(1).# p(", 1);
        rightProgram("p(1#)\n).", 1);
        wrongProgram("p(1#^");
        rightProgram("p(1).#\n", 1);
        rightProgram("p(1).#\r p(2).\n p(3).", 2);
        rightProgram("p(1).##\np(2).#\n#\np(3).", 3);
        rightProgram("p#\n(1).", 1);
        wrongProgram("p(1)#.\n^");
        wrongProgram("p(1)#.^");
        wrongProgram("p#\n^q(1).");
    }

    // "THE TAPE has at most 3000." "A TEXT is the whole tape"
    private static void fullTape() {
        House h = new House();
        House.due("3000 bytes", h.program(" ".repeat(2995) + "p(1)."), 1);
        House.due("all of them are read", h.program("p(1)." + " ".repeat(2994) + "p"), -1 - 3000);
        House.due("the length at its end", h.program(" ".repeat(2996) + "p(1)"), -3001);
        House.due("the last byte", h.program(" ".repeat(2999) + "!"), -3000);
        House.due("change()", h.change(" ".repeat(2999) + "!"), -3000);
        House.due("query()", h.query(" ".repeat(3000)), -3001);
        House.due("cell()", h.cell("A1=" + " ".repeat(2997)), 0);
        House.due("cell() of brackets", h.cell("A1=" + "(".repeat(2997)), -1 - 7);
        House.due("500 CHANGES in one text", h.change("+p(1).".repeat(500)), -5002);
        House.due("a number of 2996 digits", h.program("p(" + "9".repeat(2996) + ")."), -3);
        House.due("a NAME of 2996 signs", h.program("p".repeat(2996) + "(1)."), -13);
        House.due("a VARIABLE of 2994 signs", h.program("p(" + "V".repeat(2994) + ")."), -11);
        House.due("a sum of 1498 numbers", h.program("p(1" + "+1".repeat(1497) + ")."), 1);
        h.x.round();
        House.due("it is worked out", h.rows(0), "1498");
    }

    // "The tape has its first n bytes alone": what was fed behind them is no part of a TOKEN.
    private static void bytesBehindTheEnd() {
        String[][] cells = {{"A1=1", "0"}, {"A1=1", "000000000000"}, {"A1=B1", "2"}, {"A1=B1", "b"}, {"A1=abc", "d"}, {"A1=abcdefgh", "i"}, {"A1=", "1"}, {"A1=1", "+"}};
        for (String[] one : cells) {
            House h = new House();
            h.feed(one[0] + one[1]);
            h.x.end(one[0].length());
            House.due("cell() of " + one[0] + " with " + one[1] + " behind its end", h.x.cell(), 0);
            h.x.round();
            House.due("its VALUE", h.x.sheet(0, 0, 1), one[0].equals("A1=1") ? 1 : one[0].startsWith("A1=a") ? House.value(one[0].substring(3)) : 0);
        }
        String[][] wrong = {{"p(1):", "-", "4"}, {"p(-", "1", "2"}, {"p(1):-1!", "=", "7"}, {"p(1):-1<", "=", "8"}, {"p(0", "1", "3"}, {"inpu", "t", "4"}, {"p(1)", ".", "4"}};
        for (String[] one : wrong) {
            House h = new House();
            h.feed(one[0] + one[1]);
            h.x.end(one[0].length());
            House.due("program() of " + one[0] + " with " + one[1] + " behind its end", h.x.program(), -1 - Integer.parseInt(one[2]));
        }
    }

    // "of the first byte (from 0 on; the length at its end) with which, from the left, it can't go on to be right; of a TOKEN that can't stand its first byte"
    private static void placesAtTheEnd() {
        for (String text : new String[] {"p", "p(", "p(1", "p(1,", "p(1)", "p(1):-", "p(1):-p", "p(1):-p(", "p(1):-p(X", "p(1):-p(X)", "p(1):-p(X),", "p(1):-not",
            "p(1):-not p", "p(X):-X", "p(X):-X=", "p(X):-X=1", "p(X):-X=1+", "p(X):-X=(1", "p(sum", "p(sum(", "p(sum(X", "p(sum(X)", "input", "input e", "input e/",
            "input e/2", "input e/2 key", "input e/2 key 1", "output", "output e"}) {
            wrongProgram(text + "^");
            wrongProgram(text + " ^");
            wrongProgram(text + "^$");
            wrongProgram(text + " ^$");
        }
        House h = house();
        for (String text : new String[] {"+", "+e", "+e(", "+e(1", "+f(1,", "+e(1)", "-", "-e(1)"}) {
            wrongChange(h, text + "^");
            wrongChange(h, text + "\n^");
            wrongChange(h, text + "^$");
        }
        for (String text : new String[] {"", "e", "e(", "e(X", "e(X)", "e(X),", "not", "not e", "X", "X=", "X=1", "1"}) {
            wrongQuery(h, text + "^");
            wrongQuery(h, text + "#.^");
            wrongQuery(h, text + "^$");
        }
        for (String text : new String[] {"", "A1", "A1=1+", "A1=(", "A1=(1", "A1=sum", "A1=sum(", "A1=sum(A1", "A1=sum(A1:", "A1=sum(A1:A1", "A1=sum(e", "A1=sum(e,",
            "A1=sum(e,1", "A1=count(e", "A1=if", "A1=if(", "A1=if(1", "A1=if(1,", "A1=if(1,2", "A1=if(1,2,", "A1=if(1,2,3"}) {
            wrongCell(text + "^");
            wrongCell(text + "\t^");
            wrongCell(text + "^$");
        }
    }

    // "NUMBERS, -10^12 .. 10^12" "out of bounds WRONG at their first one" "a NUMBER out of bounds is WRONG at its first digit"
    private static void numbersInBounds() {
        rightProgram("p(999999999999). p(" + TRILLION + "). p(-999999999999). p(-" + TRILLION + ").", 4);
        wrongProgram("p(^" + MORE + ").");
        wrongProgram("p(-^" + MORE + ").");
        wrongProgram("p(^10000000000000).");
        wrongProgram("p(^9223372036854775808).");
        wrongProgram("p(^18446744073709551617).");
        wrongProgram("p(1+^" + MORE + ").");
        wrongProgram("p(1):-p(^" + MORE + ").");
        wrongProgram("p(1):-p(-^" + MORE + ").");
        wrongProgram("p(1):-1<^" + MORE + ".");
        House h = house();
        rightChange(h, "+e(" + TRILLION + "). -e(-" + TRILLION + ").", 2);
        wrongChange(h, "+e(^" + MORE + ").");
        wrongChange(h, "+e(-^" + MORE + ").");
        rightQuery(h, "e(" + TRILLION + "), 1 < -" + TRILLION + ".", 0);
        wrongQuery(h, "e(^" + MORE + ").");
        wrongQuery(h, "1 < -^" + MORE + ".");
        rightCell("A1=" + TRILLION);
        rightCell("A1=-" + TRILLION);
        wrongCell("A1=^" + MORE);
        wrongCell("A1=-^" + MORE);
        wrongCell("A1=if(1,2,-^" + MORE + ")");
    }

    // "NUMBERS, digits without a 0 ahead (0 itself)" "01 is WRONG at the 1" "-0 is 0"
    private static void numbersWithA0Ahead() {
        rightProgram("p(0). p(10). p(100). p(-0).", 4);
        wrongProgram("p(0^1).");
        wrongProgram("p(0^0).");
        wrongProgram("p(-0^1).");
        wrongProgram("p(-0^0).");
        wrongProgram("p(1):-p(0^1).");
        wrongProgram("p(1):-0^1=1.");
        wrongProgram("p(1):-1=0^1.");
        House h = house();
        wrongChange(h, "+e(0^1).");
        wrongChange(h, "+e(-0^1).");
        wrongQuery(h, "e(0^1).");
        wrongCell("A1=0^1");
        wrongCell("A1=1+0^0");
        // As n or k it is a number that is not as told.
        wrongProgram("input e/^01.");
        wrongProgram("input e/2 key ^01.");
        h.round("+e(-0). +e(0).");
        House.due("-0 is 0", h.rows(0), "0");
        rightQuery(h, "e(-0).", 1);
    }

    // "- and a number (no blank between)" "A - with no digit right behind, where a VALUE must stand, is WRONG at it"
    private static void minus() {
        rightProgram("p(-1). p(1-1). p(1--1). p(1 - -1). p(1 -1). p(1- 1). p(-1-1). p((-1)).", 8);
        wrongProgram("p(^- 1).");
        wrongProgram("p(^--1).");
        wrongProgram("p(^-#\n1).");
        wrongProgram("p(^-a).");
        wrongProgram("p(^-X).");
        wrongProgram("p(^-(1)).");
        wrongProgram("p(1-^- -1).");
        wrongProgram("p(1-^--1).");
        wrongProgram("p(1-^- 1).");
        wrongProgram("p(1*^-X).");
        wrongProgram("p(1):-p(^- 1).");
        wrongProgram("p(1):-p(^-a).");
        wrongProgram("p(1):-^- 1=1.");
        wrongProgram("p(1):-1=^-X.");
        House h = house();
        wrongChange(h, "+e(^- 1).");
        wrongChange(h, "+e(^-a).");
        wrongChange(h, "+e(^-");
        wrongQuery(h, "^-X = 1.");
        wrongQuery(h, "e(^-X).");
        wrongCell("A1=^-A1");
        wrongCell("A1=^- 1");
        wrongCell("A1=1-^-A1");
        rightCell("A1=1--1");
        rightCell("A1=A1-1");
    }

    // "WORDS, 1 to 8 letters a .. z" "a NAME of letters alone, at most 8 (else it is WRONG at its first byte)"
    // "A NAME of too many signs where a VALUE must stand is WRONG at its first byte."
    private static void words() {
        rightProgram("p(a). p(abcdefgh). p(zzzzzzzz).", 3);
        House h = house();
        rightChange(h, "+e(a). +e(abcdefgh).", 2);
        rightQuery(h, "e(abcdefgh), a = abcdefgh.", 0);
        rightCell("A1=abcdefgh");
        for (String word : new String[] {NINE_LETTERS, "a1", "a_", "abcdefg1", "abcdefgh_", LONG_NAME, LONG_NAME + "m"}) {
            wrongProgram("p(^" + word + ").");
            wrongProgram("p(1+^" + word + ").");
            wrongProgram("p((^" + word + ")).");
            wrongProgram("p(1):-p(^" + word + ").");
            wrongProgram("p(1):-not p(^" + word + ").");
            wrongProgram("p(1):-1=^" + word + ".");
            wrongProgram("p(1):-(^" + word + ")=1.");
            wrongChange(h, "+e(^" + word + ").");
            wrongChange(h, "+f(1,^" + word + ").");
            wrongQuery(h, "e(^" + word + ").");
            wrongQuery(h, "1 < ^" + word + ".");
            wrongCell("A1=^" + word);
            wrongCell("A1=if(1,^" + word + ",3)");
        }
    }

    // "NAMES, a small letter and then up to 11 small letters, digits, _ (longer ones are WRONG at the 13th sign)"
    private static void names() {
        String[] right = {"a", "z", "a1", "a_", "a__", "abcdefghijk", LONG_NAME, "a12345678901", "a___________", "zz9_", "if"};
        for (String name : right) {
            rightProgram("input " + name + "/1. output " + name + ". qq(X):-" + name + "(X),not " + name + "(1).", 1);
            rightProgram(name + "(1).", 1);
            House h = new House();
            h.start("input " + name + "/1.", "");
            rightChange(h, "+" + name + "(1).", 1);
            h.x.round();
            rightQuery(h, name + "(X), not " + name + "(2).", 1);
            rightCell("A1=count(" + name + ")+sum(" + name + ",1)");
        }
        for (String more : new String[] {"m", "1", "_", "mnopqrst"}) {
            wrongProgram("input " + LONG_NAME + "^" + more + "/1.");
            wrongProgram("output " + LONG_NAME + "^" + more + ".");
            wrongProgram(LONG_NAME + "^" + more + "(1).");
            wrongProgram("p(1):-" + LONG_NAME + "^" + more + "(1).");
            wrongProgram("p(1):-not " + LONG_NAME + "^" + more + "(1).");
            House h = house();
            wrongChange(h, "+" + LONG_NAME + "^" + more + "(1).");
            wrongQuery(h, LONG_NAME + "^" + more + "(1).");
            wrongQuery(h, "not " + LONG_NAME + "^" + more + "(1).");
            wrongCell("A1=count(" + LONG_NAME + "^" + more + ")");
            wrongCell("A1=sum(" + LONG_NAME + "^" + more + ",1)");
        }
        // The 12 signs of a NAME count, all of them, and where they stand.
        House h = new House();
        h.start(LONG_NAME + "(1). abcdefghijkm(2). abcdefghijk(3). a9(1). a_(1). a0(1). az(1). ab(1). ba(1). a(1). aa(1). z(1). z0(1).", "");
        House.due("thirteen NAMES", h.x.count(2), 13);
        for (String none : new String[] {"^A(1).", "^1a(1).", "^_a(1).", "a^A(1).", "a^-b(1)."}) {
            wrongProgram(none);
            wrongProgram("p(1). " + none);
        }
        wrongProgram("p(1) ^abcdefghijklm.");
        wrongProgram("p(sum(^abcdefghijklm)).");
    }

    // "VARIABLES, a great letter and then up to 7 letters of both kinds, digits (likewise at the 9th)"
    private static void variables() {
        String[] right = {"A", "Z", "Az", "AZ", "A9", "Abcdefg", LONG_VARIABLE, "ABCDEFGH", "A1234567", "Zz9Zz9Z9"};
        for (String name : right) {
            rightProgram("input e/1. p(" + name + "):-e(" + name + "),not e(" + name + "),1<" + name + "+1. p(sum(" + name + ")):-e(" + name + ").", 2);
            rightQuery(house(), "e(" + name + ").", 0);
        }
        for (String more : new String[] {"i", "I", "1", "ijklmnop"}) {
            wrongProgram("p(" + LONG_VARIABLE + "^" + more + ").");
            wrongProgram("p((1+" + LONG_VARIABLE + "^" + more + ")).");
            wrongProgram("p(sum(" + LONG_VARIABLE + "^" + more + ")).");
            wrongProgram("p(1):-p(" + LONG_VARIABLE + "^" + more + ").");
            wrongProgram("p(1):-not p(" + LONG_VARIABLE + "^" + more + ").");
            wrongProgram("p(1):-" + LONG_VARIABLE + "^" + more + "=1.");
            wrongProgram("p(1):-1=" + LONG_VARIABLE + "^" + more + ".");
            wrongQuery(house(), "e(" + LONG_VARIABLE + "^" + more + ").");
        }
        // All eight signs tell VARIABLES apart, and great letters from small ones.
        House h = new House();
        h.start("input f/2.", "+f(1,2).");
        rightQuery(h, "f(Abcdefgh,Abcdefgi).", 1);
        rightQuery(h, "f(Abcdefgh,Abcdefgh).", 0);
        rightQuery(h, "f(AB,Ab).", 1);
        rightQuery(h, "f(A,A1).", 1);
        rightQuery(h, "f(AZ,Aa).", 1);
        rightQuery(h, "f(Az,A0).", 1);
        rightQuery(h, "f(AB,BA).", 1);
        rightQuery(h, "f(A9,AA).", 1);
        rightQuery(h, "f(A,AA).", 1);
        // Where no VARIABLE can stand it is WRONG at its first byte, whatever its length.
        wrongProgram("^Abcdefghi.");
        wrongProgram("input ^Abcdefghi/1.");
        wrongChange(h, "+f(1,^Abcdefghi).");
        wrongCell("A1=^Abcdefghi");
        wrongCell("A1=^Abcdefgh");
        wrongProgram("p(1):-p(X^_).");
    }

    // "_ alone" "_x at the x"
    private static void anyAlone() {
        rightProgram("input f/2. p(1):-f(_,_), not f(_,1).", 1);
        for (String more : new String[] {"x", "X", "1", "_"}) {
            wrongProgram("p(1):-p(_^" + more + ").");
            wrongProgram("p(1):-p(_ ^" + more + ").");
            wrongProgram("p(1):-not p(1,_^" + more + ").");
            wrongQuery(house(), "e(_^" + more + ").");
        }
        wrongProgram("p(^_).");
        wrongProgram("p(1+^_).");
        wrongProgram("p(sum(^_)).");
        wrongProgram("p(1):-^_=1.");
        wrongProgram("p(1):-1=^_.");
        wrongProgram("^_p(1).");
        wrongChange(house(), "+e(^_).");
        wrongQuery(house(), "e(X), X = ^_.");
        wrongCell("A1=^_");
    }

    // "signs ( ) , . / : + - * % = < > and :- != <= >= (the longest; a ! without = behind it is WRONG at the !)"
    private static void twoByteSigns() {
        rightProgram("p(1):-1!=2,1<=2,2>=1,1<2,2>1,1=1.", 1);
        rightProgram("p(1):-1<-2,1>-2,1=-2,1!=-2,1<=-2,1>=-2.", 1);
        wrongProgram("p(1):-1^!2.");
        wrongProgram("p(1):-1^! =2.");
        wrongProgram("p(1):-1^!!=2.");
        wrongProgram("p(1):-1!=^=2.");
        wrongProgram("p(1):-1< ^=2.");
        wrongProgram("p(1):-1> ^=2.");
        wrongProgram("p(1):-1=^<2.");
        wrongProgram("p(1):-1=^>2.");
        wrongProgram("p(1):-1<=^=2.");
        wrongProgram("p(1)^: -1=1.");
        wrongProgram("p(1)^:=1.");
        wrongProgram("p(1):-^-p(1).");
        wrongProgram("p(^!).");
        wrongProgram("p(1)^!=2.");
        wrongCell("A1^!=1");
        wrongCell("A1^<=1");
        wrongCell("A1=sum(A1^:-A2)");
        rightCell("A1=-1");
        // :- is the longest, so this - is none of a number's.
        wrongProgram("p(1):-1^.");
        rightProgram("p(1):--1=-1.", 1);
        wrongQuery(house(), "1 ^! 2.");
    }

    // "STATEMENTS, none of them too, each ended by a ."
    private static void statements() {
        rightProgram("", 0);
        rightProgram(" ", 0);
        rightProgram("p(1).", 1);
        wrongProgram("p(1)^");
        wrongProgram("p(1)^p(2).");
        wrongProgram("p(1)^;");
        wrongProgram("p(1).^.");
        wrongProgram("^.");
        wrongProgram("input e/1 ^output e.");
        wrongProgram("output e^,");
        wrongProgram("input e/1^,");
        House h = new House();
        h.start("p(1).", "");
        House.due("a program without statements", h.start("", ""), 1);
        House.due("its predicates", h.x.count(2), 0);
        House.due("EDITIONS", h.x.count(7), 2);
    }

    // "n 1 .. 4" "n, k that are not as told are WRONG at the number"
    private static void inputWidths() {
        for (int n = 1; n <= 4; n++) {
            rightProgram("input e/" + n + ".", 0);
            House h = new House();
            h.start("input e/" + n + ".", "");
            House.due("n " + n, h.x.predicate(0, 0), n);
        }
        for (String n : new String[] {"0", "5", "10", "11", "41", "4294967297", MORE, "01"}) {
            wrongProgram("input e/^" + n + ".");
        }
        wrongProgram("input e/^-1.");
        wrongProgram("input e/^X.");
        wrongProgram("input e/^one.");
        wrongProgram("input e/^(1).");
        wrongProgram("input e/1^+1.");
    }

    // "k 1 .. n - 1"
    private static void inputKeys() {
        for (int n = 2; n <= 4; n++) {
            for (int k = 1; k < n; k++) {
                rightProgram("input e/" + n + " key " + k + ".", 0);
                House h = new House();
                h.start("input e/" + n + " key " + k + ".", "");
                House.due("k " + k, h.x.predicate(0, 1), k);
            }
            wrongProgram("input e/" + n + " key ^0.");
            wrongProgram("input e/" + n + " key ^" + n + ".");
            wrongProgram("input e/" + n + " key ^" + (n + 1) + ".");
            wrongProgram("input e/" + n + " key ^4294967297.");
            wrongProgram("input e/" + n + " key ^-1.");
            wrongProgram("input e/" + n + " key ^k.");
            wrongProgram("input e/" + n + " key 1 ^key 1.");
        }
        wrongProgram("input e/1 key ^1.");
        wrongProgram("input e/1 key ^0.");
        wrongProgram("input e/1 key ^2.");
        House h = new House();
        h.start("input e/4.", "");
        House.due("0 without a KEY", h.x.predicate(0, 1), 0);
    }

    // "(input, output, key, not, count, sum, least, most are no NAMES otherwise.)"
    private static void keptWordsAreNoNames() {
        for (String word : KEPT) {
            wrongProgram("input ^" + word + "/1.");
            wrongProgram("output ^" + word + ".");
            wrongProgram("p(1):-not ^" + word + "(1).");
            wrongProgram("p(1):-1=1,not ^" + word + "(1).");
            wrongChange(house(), "+^" + word + "(1).");
            wrongCell("A1=count(^" + word + ")");
            wrongCell("A1=most(^" + word + ",1)");
            if (!word.equals("not")) {
                wrongProgram("p(1):-^" + word + "(1).");
                wrongQuery(house(), "^" + word + "(1).");
            }
            if (!word.equals("input") && !word.equals("output")) {
                wrongProgram("^" + word + "(1).");
                wrongProgram("p(1).^" + word + "(1).");
            }
            // One letter more, or less, is a NAME.
            rightProgram(word + "s(1). output " + word + "s. q(1):-" + word + "s(1),not " + word + "s(2).", 2);
            rightProgram(word.substring(0, word.length() - 1) + "(1).", 1);
        }
        // Another letter anywhere makes it a NAME.
        for (String name : new String[] {"jnput", "inpus", "putput", "outpux", "hey", "kex", "kay", "dot", "nor", "nut", "mount", "counr", "gum", "sun", "som", "beast", "leasu", "host", "mosu"}) {
            rightProgram(name + "(" + name + "). output " + name + ".", 1);
        }
        wrongProgram("input^(1).");
        wrongProgram("output^(1).");
        wrongProgram("p(1):-not^(1).");
        rightProgram("if(1). output if. value(if):-if(1).", 2);
    }

    // "input, output, key, not, count, sum, least, most are no VALUES either (WRONG at them)."
    private static void keptWordsAreNoValues() {
        for (String word : KEPT) {
            boolean gathers = word.equals("count") || word.equals("sum") || word.equals("least") || word.equals("most");
            if (!gathers) {
                wrongProgram("p(^" + word + ").");
                wrongCell("A1=^" + word);
                wrongCell("A1=1+^" + word);
            }
            wrongProgram("p(1+^" + word + ").");
            wrongProgram("p((^" + word + ")).");
            wrongProgram("p(1):-p(^" + word + ").");
            wrongProgram("p(1):-p(1,^" + word + ").");
            wrongProgram("p(1):-1=^" + word + ".");
            wrongProgram("p(1):-(^" + word + ")=1.");
            wrongChange(house(), "+e(^" + word + ").");
            wrongQuery(house(), "e(^" + word + ").");
            wrongQuery(house(), "1 < ^" + word + ".");
            if (!word.equals("not")) {
                wrongProgram("p(1):-^" + word + "=1.");
                wrongQuery(house(), "^" + word + "=1.");
            }
            rightProgram("p(" + word + "s). q(1):-p(" + word + "s), " + word + "s=1.", 2);
        }
        rightProgram("p(if):-if=if.", 1);
    }

    // "ITEMS, 1 to 4, with , between"
    private static void items() {
        rightProgram("p(1).", 1);
        rightProgram("p(1,2,3,4).", 1);
        wrongProgram("p(^).");
        wrongProgram("p(1,^).");
        wrongProgram("p(^,1).");
        wrongProgram("p(1,2,3,4^,5).");
        wrongProgram("p(1,2,3,4^,).");
        wrongProgram("p(1 ^2).");
        wrongProgram("p^.");
        wrongProgram("p^:-p(1).");
        wrongProgram("p(1,2,3,count()^,5).");
    }

    // "one of count ( ), sum ( VARIABLE ), least ( VARIABLE ), most ( VARIABLE ), of which a head has one at most (a second one is WRONG)"
    private static void gatheringItems() {
        rightProgram("input e/1. p(count()):-e(X). p(sum(X)):-e(X). p(least(X)):-e(X). p(most(X)):-e(X).", 4);
        rightProgram("input e/1. p(1,X,3,count()):-e(X). p(sum(X),X,X,X):-e(X).", 2);
        for (String one : new String[] {"count()", "sum(X)", "least(X)", "most(X)"}) {
            for (String two : new String[] {"count()", "sum(X)", "least(X)", "most(X)"}) {
                wrongProgram("p(" + one + ",^" + two + ").");
                wrongProgram("p(1," + one + ",2,^" + two + ").");
            }
            wrongProgram("p(" + one + "^+1).");
            wrongProgram("p(1+^" + one + ").");
            wrongProgram("p((^" + one + ")).");
            wrongProgram("p(1):-1=^" + one + ".");
            wrongProgram("p(1):-p(^" + one + ").");
        }
        wrongProgram("p(count(^X)).");
        wrongProgram("p(count(^1)).");
        for (String kind : new String[] {"sum", "least", "most"}) {
            wrongProgram("p(" + kind + "(^)).");
            wrongProgram("p(" + kind + "(^1)).");
            wrongProgram("p(" + kind + "(^a)).");
            wrongProgram("p(" + kind + "(^_)).");
            wrongProgram("p(" + kind + "(^(X))).");
            wrongProgram("p(" + kind + "(X^+1)).");
            wrongProgram("p(" + kind + "(X^,X)).");
            wrongProgram("p(" + kind + "^).");
            wrongProgram("p(" + kind + " ^X).");
        }
        // A second one in another rule is right.
        rightProgram("p(count()). p(count()). q(1,count()).", 3);
    }

    // "NAME ( TERMS, 1 to 4 )" "TERM: VARIABLE, _, or VALUE"
    private static void terms() {
        rightProgram("input e/4. p(X):-e(X,_,a,-1), not e(X,_,a,0).", 1);
        rightProgram("input e/1. p(X):-e(X).", 1);
        for (String not : new String[] {"", "not "}) {
            wrongProgram("p(1):-" + not + "p(^).");
            wrongProgram("p(1):-" + not + "p(1,^).");
            wrongProgram("p(1):-" + not + "p(X,_,3,4^,5).");
            wrongProgram("p(1):-" + not + "p(1^+1).");
            wrongProgram("p(1):-" + not + "p(^(1)).");
            wrongProgram("p(1):-" + not + "p(X^-1).");
            wrongProgram("p(1):-" + not + "p(1 ^1).");
            wrongProgram("p(1):-" + not + "p(a^(1)).");
            wrongQuery(house(), not + "e(1,2,3,4^,5).");
            wrongQuery(house(), not + "e(^).");
        }
        wrongProgram("p(1):-not ^not p(1).");
        wrongProgram("p(1):-not ^1=1.");
        wrongProgram("p(1):-not ^(p(1)).");
        wrongProgram("p(1):-not p^=1.");
    }

    // "EXPRESSION SIGN EXPRESSION, SIGN one of = != < <= > >="
    private static void signs() {
        for (String sign : new String[] {"=", "!=", "<", "<=", ">", ">="}) {
            rightProgram("p(1):-1" + sign + "2.", 1);
            rightProgram("p(1):-(1+2)*3 " + sign + " a.", 1);
            rightQuery(house(), "X = 1, X " + sign + " 2.", sign.equals("=") || sign.startsWith(">") ? 0 : 1);
            wrongProgram("p(1):-1" + sign + "2^" + sign + "3.");
            wrongProgram("p(1):-1" + sign + "^.");
            wrongProgram("p(1):-^" + sign + "1.");
            wrongProgram("p(1):-1" + sign + "(^" + sign + "1).");
        }
        for (String sign : new String[] {":", ":-", "/=", "*=", "(", ")", "X", "a", "1", "_", ".", ","}) {
            String wrong = sign.length() == 2 && sign.endsWith("=") ? sign.charAt(0) + "^=" : "^" + sign;
            wrongProgram("p(1):-1 " + wrong + " 1.");
        }
    }

    // "VARIABLES, VALUES, ( EXPRESSION ), with + - * / % between, * / % first, those of one strength from the left"
    private static void expressions() {
        rightProgram("input e/1. p(X+1-2*3/4%5):-e(X). p((X)):-e(X). p(X*(X+1)):-e(X). p(a+b):-e(X).", 4);
        wrongProgram("p(1+^).");
        wrongProgram("p(^+1).");
        wrongProgram("p(1+^+1).");
        wrongProgram("p(1*^/1).");
        wrongProgram("p(1^.).");
        wrongProgram("p((^)).");
        wrongProgram("p((1)^(2)).");
        wrongProgram("p(1^(2)).");
        wrongProgram("p((1^,2)).");
        wrongProgram("p((1^=1)).");
        House h = new House();
        h.start("p(2+3*4). q(2*3+4). r(20-5-3). s(100/10/5). t(100%7%2). u(2+10%4*3). v((2+3)*4). w(20-(5-3)). y(7-4/2). z(2*7/4).", "");
        String[] due = {"14", "10", "12", "2", "0", "8", "20", "18", "5", "3"};
        for (int p = 0; p < due.length; p++) {
            House.due("strength, EXPRESSION " + p, h.rows(p), due[p]);
        }
    }

    // "at most 4 brackets ( of expressions within one another (a fifth is WRONG)"
    private static void brackets() {
        rightProgram("p((((1)))).", 1);
        rightProgram("p(((((1))))).", 1);
        wrongProgram("p(((((^(1)))))).");
        wrongProgram("p(((((^(");
        wrongProgram("p(1,2,3,1+(1+(1+(1+(1+^(1)))))).");
        rightProgram("p(((((1))))+((((2))))*((((3)))), ((((4))))).", 1);
        wrongProgram("p(((((1))))+((((2+^(1)))))).");
        rightProgram("p(1):-((((1))))=((((2)))).", 1);
        wrongProgram("p(1):-((((^(1)))))=2.");
        wrongProgram("p(1):-2<((((^(1))))).");
        rightQuery(house(), "((((1))))=((((1)))).", 1);
        wrongQuery(house(), "1=((((^(1))))).");
        // Those of a HEAD, an ATOM or a gathering ITEM are none of expressions.
        rightProgram("input e/1. p(count(),((((X))))):-e(X).", 1);
    }

    private static String names(int n) {
        return repeat("n#(1).", 0, n);
    }

    // "At most 16 NAMES of predicates" "the 17th NAME ... at its first byte"
    private static void sixteenNames() {
        rightProgram(names(15) + "q(1).", 16);
        rightProgram(names(16), 16);
        rightProgram(names(16) + "output n0. n1(1):-n2(1),not n3(1).", 17);
        wrongProgram(names(16) + "^q(1).");
        wrongProgram(names(16) + "^q");
        wrongProgram(names(16) + "input ^q/1.");
        wrongProgram(names(16) + "output ^q.");
        wrongProgram(names(16) + "n0(1):-^q(1).");
        wrongProgram(names(16) + "n0(1):-not ^q(1).");
        wrongProgram(names(15) + "n0(1):-q(1),not ^r(1).");
        wrongProgram(repeat("input n#/1.", 0, 16) + "^q(1).");
        wrongProgram(repeat("output n#.", 0, 16) + "input ^q/1.");
        // What is no NAME of a predicate doesn't count.
        rightProgram(names(16) + "n0(q):-q=r,n0(s).", 17);
    }

    // "24 RULES (HEADS, with LITERALS or without)" "the 25th RULE's HEAD at its first byte, whatever it is"
    private static void twentyFourRules() {
        rightProgram("p(1).".repeat(23), 23);
        rightProgram("p(1).".repeat(24), 24);
        rightProgram("p(1):-1=1.".repeat(24), 24);
        rightProgram("p(count()).".repeat(12) + "q(1).".repeat(12) + "output p. input e/1. # p(1).", 24);
        wrongProgram("p(1).".repeat(24) + "^p(1).");
        wrongProgram("p(1):-1=1.".repeat(24) + "^p(1).");
        wrongProgram("p(1).".repeat(12) + "p(1):-1=1.".repeat(12) + "output p.^p(1):-1=1.");
        wrongProgram("p(1).".repeat(24) + " ^p");
        for (String any : new String[] {LONG_NAME + "m(1).", LONG_NAME + "m", "X", "1", ".", "(", "!", "_", "not p(1).", "count(1).", "\u0000"}) {
            wrongProgram("p(1).".repeat(24) + "^" + any);
        }
        wrongProgram(names(16) + "n0(1).".repeat(8) + "^q(1).");
    }

    // "8 LITERALS a rule" "the 9th LITERAL ... at the LITERAL's first byte" "a not ATOM counts among LITERALS alone"
    private static void eightLiterals() {
        for (String literal : new String[] {"1=1", "not q(2)", "X!=1", "a<b"}) {
            String eight = "X=1," + (literal + ",").repeat(6) + literal;
            rightProgram("q(1). p(1):-" + eight + ".", 2);
            wrongProgram("q(1). p(1):-" + eight + ",^" + literal + ".");
            wrongProgram("q(1). p(1):-" + eight + ", ^q(1).");
            wrongProgram("q(1). p(1):-" + eight + ",^(");
            wrongProgram("q(1). p(1):-" + eight + ",^!");
            wrongProgram("q(1). p(1):-" + eight + ",^");
            wrongProgram("q(1). p(1):-" + eight + ",^V9=1.");
        }
        rightProgram("q(1). p(1):-q(1),q(1),q(1)," + "not q(2),".repeat(4) + "1=1.", 2);
        wrongProgram("q(1). p(1):-q(1),q(1),q(1)," + "not q(2),".repeat(5) + "^1=1.");
        // It is the 9th LITERAL, also if it would be the 4th ATOM, the 17th NAME or the 9th VARIABLE.
        wrongProgram("q(1). p(1):-q(1),q(1),q(1)," + "1=1,".repeat(5) + "^q(1).");
        // Each rule has its own eight.
        rightProgram(("p(1):-" + "1=1,".repeat(7) + "1=1.").repeat(24), 24);
    }

    // "of which 3 are ATOMS without not" "The 4th ATOM without not ... at the LITERAL's first byte"
    private static void threeAtoms() {
        rightProgram("q(1). p(1):-q(1),q(1),q(1).", 2);
        rightProgram("q(1). p(1):-q(1),q(1),q(1),not q(2),not q(2),not q(2),not q(2),not q(2).", 2);
        wrongProgram("q(1). p(1):-q(1),q(1),q(1),^q(1).");
        wrongProgram("q(1). p(1):-q(1),not q(2),q(1),1=1,q(1),not q(2), ^q (1).");
        wrongProgram("q(1). p(1):-q(1),q(1),q(1),^q(");
        wrongProgram("q(1). p(1):-q(1),q(1),q(1),^a_1(1).");
        // A VALUE is still right there.
        rightProgram("q(1). p(1):-q(1),q(1),q(1),q=1.", 2);
        wrongProgram("q(1). p(1):-q(1),q(1),q(1),q^.");
        wrongProgram("q(1). p(1):-q(1),q(1),q(1),q^");
        // One that can't be a VALUE is WRONG at what is behind it, here too: without a ( it is no ATOM.
        for (String none : new String[] {"a1", "a_", NINE_LETTERS, LONG_NAME}) {
            wrongProgram("q(1). p(1):-q(1),q(1),q(1),^" + none + "(1).");
            wrongProgram("q(1). p(1):-q(1),q(1),q(1),^" + none + " (");
            wrongProgram("q(1). p(1):-q(1),q(1),q(1)," + none + "^=1.");
            wrongProgram("q(1). p(1):-q(1),q(1),q(1)," + none + " ^.");
            wrongProgram("q(1). p(1):-q(1),q(1),q(1)," + none + "^");
        }
        // Each rule has its own three.
        rightProgram("q(1)." + "p(1):-q(1),q(1),q(1).".repeat(23), 24);
    }

    // "8 VARIABLES a rule" "the 9th VARIABLE at its first byte"
    private static void eightVariables() {
        rightProgram("input e/4. p(A):-e(A,B,C,D),e(E,F,G,H).", 1);
        rightProgram("input e/4. p(A,B,C,D):-e(A,B,C,D),e(E,F,G,H),e(A,E,_,_),A<H,not e(H,H,H,_).", 1);
        wrongProgram("input e/4. p(A):-e(A,B,C,D),e(E,F,G,H),e(^I,A,A,A).");
        wrongProgram("input e/4. p(A):-e(A,B,C,D),e(E,F,G,H),not e(A,^I,A,A).");
        wrongProgram("input e/4. p(A):-e(A,B,C,D),e(E,F,G,H),^I=A.");
        wrongProgram("input e/4. p(A):-e(A,B,C,D),e(E,F,G,H),A=1+(^I).");
        wrongProgram("input e/4. p(I):-e(A,B,C,D),e(E,F,G,^H).");
        wrongProgram("input e/4. p(sum(I)):-e(A,B,C,D),e(E,F,G,^H).");
        wrongProgram("p(A+B+C+D+E+F+G+H+^I).");
        wrongProgram("p(A+B+C+D+E+F+G+H,sum(^I)).");
        // The ninth is one that is none of the eight; each rule has its own.
        rightProgram("input e/4. " + "p(A):-e(A,B,C,D),e(E,F,G,H). p(I):-e(I,J,K,L),e(M,N,O,P).".repeat(12), 24);
        House h = new House();
        h.start("input e/4.", "+e(1,2,3,4).");
        rightQuery(h, "e(A,B,C,D), e(E,F,G,H).", 1);
        wrongQuery(h, "e(A,B,C,D), e(E,F,G,H), ^I = 1.");
        wrongQuery(h, "e(A,B,C,D), e(E,F,G,H), e(_,_,_,^I).");
        rightQuery(h, "e(A,B,C,D), e(E,F,G,H), e(_,_,_,_).", 1);
    }

    // "A NAME at the beginning of a LITERAL may be an ATOM's (blanks ahead of its ( or not) or a VALUE;
    // one that can't be a VALUE is WRONG at what is behind it, if that is no (."
    private static void namesAtTheBeginningOfALiteral() {
        rightProgram("q(1). p(1):-q(1),q (1),q\n#\n(1).", 2);
        rightProgram("p(1):-abc=1,abcdefgh+1<2,abc#\n=1.", 1);
        for (String none : new String[] {NINE_LETTERS, "a1", "a_", "a1b2", LONG_NAME, "abcdefgh_"}) {
            wrongProgram("p(1):-" + none + "^=1.");
            wrongProgram("p(1):-" + none + " ^=1.");
            wrongProgram("p(1):-" + none + "#\n^+1=1.");
            wrongProgram("p(1):-1=1," + none + "^.");
            wrongProgram("p(1):-1=1," + none + "^");
            wrongProgram("p(1):-1=1," + none + " ^!");
            wrongProgram("p(1):-" + none + "(1)^");
            wrongQuery(house(), none + " ^= 1.");
        }
        wrongProgram("p(1):-abc^");
        wrongProgram("p(1):-abc^.");
        wrongProgram("p(1):-abc ^abc(1).");
        wrongProgram("p(1):-abc^X.");
        wrongProgram("p(1):-abc+abc^(1)=2.");
    }

    // "a NAME, VARIABLE with too many signs is WRONG at its 13th, 9th sign, also where it is one too many"
    private static void tooManySignsAndOneTooMany() {
        wrongProgram(names(16) + LONG_NAME + "^m(1).");
        wrongProgram(names(16) + "input " + LONG_NAME + "^m/1.");
        wrongProgram(names(16) + "output " + LONG_NAME + "^m.");
        wrongProgram(names(16) + "n0(1):-" + LONG_NAME + "^m(1).");
        wrongProgram(names(16) + "n0(1):-not " + LONG_NAME + "^m(1).");
        wrongProgram("input e/4. p(A):-e(A,B,C,D),e(E,F,G,H)," + LONG_VARIABLE + "^i=A.");
        wrongProgram("input e/4. p(A):-e(A,B,C,D),e(E,F,G,H),e(A,A,A," + LONG_VARIABLE + "^i).");
        wrongProgram("p(A+B+C+D+E+F+G+H+" + LONG_VARIABLE + "^i).");
        wrongProgram("q(1). p(1):-q(1),q(1),q(1)," + LONG_NAME + "^m=1.");
    }

    // "PREDICATES are numbered 0, 1, .. as their NAMES first stand in the text; RULES likewise."
    private static void numbering() {
        House h = new House();
        h.start("output last. a(X):-b(X),not c(X). input b/1. input c/1. last(1). a(7).", "+b(1). +b(2). +c(2).");
        House.due("last is 0", h.rows(0), "1");
        House.due("a is 1", h.rows(1), "1 7");
        House.due("b is 2", h.rows(2), "1 2");
        House.due("c is 3", h.rows(3), "2");
        House.due("the first rule is 0", h.x.reason(1, 0, 0), 0);
        House.due("last(1) is 1", h.x.reason(0, 0, 0), 1);
        House.due("a(7) is 2", h.x.reason(1, 1, 0), 2);
    }

    // "A QUERY: LITERALS with , between, ended by a . (limits as for a rule)" "in a QUERY NAMES are not counted" "an empty QUERY ... is WRONG"
    private static void queries() {
        House h = house();
        wrongQuery(h, "^");
        wrongQuery(h, "   ^");
        wrongQuery(h, "#^");
        wrongQuery(h, "^.");
        wrongQuery(h, "e(X)^");
        wrongQuery(h, "e(X).^.");
        wrongQuery(h, "e(X). ^e(X).");
        wrongQuery(h, "e(X)^:-e(X).");
        wrongQuery(h, "e(X),^.");
        rightQuery(h, "e(X). # and a remark", 0);
        rightQuery(h, "1=1," + "not e(1),".repeat(6) + "not e(1).", 1);
        wrongQuery(h, "1=1," + "not e(1),".repeat(7) + "^not e(1).");
        rightQuery(h, "e(X),e(X),e(X),not e(X).", 0);
        wrongQuery(h, "e(X),e(X),e(X),^e(X).");
        House full = new House();
        full.start(names(16), "");
        rightQuery(full, "n15(X), n0(X), not n7(2).", 1);
        faultyQuery(full, 2, "^q(1).");
        // 17 NAMES and more can't stand in 8 LITERALS; NAMES that the program hasn't have no limit.
        faultyQuery(full, 2, "not ^q(1),not r(1),not s(1),not t(1),not u(1),not v(1),not w(1),not x(1).");
    }

    // "A CHANGE TEXT: CHANGES, + or -, NAME ( VALUES, 1 to 4, with , between ), each ended by a ." "An empty CHANGE TEXT has none"
    private static void changes() {
        House h = new House();
        h.start("input e/1. input f/2. input g/4.", "");
        rightChange(h, "", 0);
        rightChange(h, " \t\r\n", 0);
        rightChange(h, "#+e(1).", 0);
        rightChange(h, "+e(1).", 1);
        rightChange(h, "-e(1).", 1);
        rightChange(h, "+g(1,2,3,4).-f(a,-1).", 2);
        rightChange(h, "+ e ( 1 ) . - e ( 1 ) .", 2);
        wrongChange(h, "^e(1).");
        wrongChange(h, "^*e(1).");
        wrongChange(h, "+^+e(1).");
        wrongChange(h, "-^-e(1).");
        wrongChange(h, "+^1(1).");
        wrongChange(h, "+^not e(1).");
        wrongChange(h, "+e(^).");
        wrongChange(h, "+e(1,^).");
        wrongChange(h, "+e(1 ^2).");
        wrongChange(h, "+g(1,2,3,4^,5).");
        wrongChange(h, "+e(1)^");
        wrongChange(h, "+e(1)^,+e(2).");
        wrongChange(h, "+e(1).^.");
        wrongChange(h, "+e(1)^:-e(2).");
        wrongChange(h, "+e(^X).");
        wrongChange(h, "+e(1^+1).");
        wrongChange(h, "+e(^(1)).");
        wrongChange(h, "+e(a^(1)).");
    }
}

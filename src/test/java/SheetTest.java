/** Promises 7 (cell), 19 (sheet). */
public final class SheetTest {
    public static void main(String[] args) {
        valuesOfCells();
        emptyCells();
        errors();
        ranges();
        names();
        conditions();
        rings();
        pendingTexts();
        workedByTexts();
        workedByRows();
        workedByEditions();
        workedInRings();
        chains();
        noSuchCell();
        House.end();
    }

    /** A house with these cells, behind one round. */
    private static House with(String... texts) {
        House h = new House();
        for (String text : texts) {
            int told = h.cell(text);
            if (told < 0) {
                throw new IllegalStateException("cell() answered " + told + " for " + text);
            }
        }
        h.x.round();
        return h;
    }

    private static void formula(String formula, String due) {
        House h = with("A1=5", "A2=-3", "A3=word", "A4=1/0", "A5=A3+1", "B1=" + formula);
        House.due(formula, h.cellAt("B1"), due);
    }

    private static void valuesOfCells() {
        formula("7", "7");
        formula("-7", "-7");
        formula("abc", "abc");
        formula("A1", "5");
        formula("A3", "word");
        formula("A1+A2*2", "-1");
        formula("(A1+A2)*2", "4");
        formula("A1-A2-1", "7");
        formula("A2/2", "-1");
        formula("A2%2", "-1");
        formula("7%A2", "1");
        formula("1000000000000", "1000000000000");
        formula("1000000*1000000", "1000000000000");
        formula("-1000000*1000000", "-1000000000000");
        formula("A12", "0");
        formula("A12+1", "1");
        House h = with("F12=3", "A1=F12*2");
        House.due("sheet(5, 11, 1)", h.x.sheet(5, 11, 1), 3);
        House.due("sheet(0, 0, 1)", h.x.sheet(0, 0, 1), 6);
        House.due("a word", with("A1=a").x.sheet(0, 0, 1), 2010460353203L);
    }

    private static void emptyCells() {
        House h = with("A1=5", "B1=A1", "C1=count(A1:B1)");
        House.due("C1", h.cellAt("C1"), "2");
        h.cell("A1=");
        h.x.round();
        House.due("it is EMPTY", h.cellAt("A1"), "EMPTY");
        House.due("kind", h.x.sheet(0, 0, 0), 0);
        House.due("its value", h.x.sheet(0, 0, 1), 0);
        House.due("what reads it has 0", h.cellAt("B1"), "0");
        House.due("a FORMULA's 0 is no EMPTY cell", h.x.sheet(1, 0, 0), 1);
        House.due("C1", h.cellAt("C1"), "1");
    }

    private static void errors() {
        formula("A3+1", "ERROR 2");
        formula("1+A3", "ERROR 2");
        formula("a*b", "ERROR 2");
        formula("A3/0", "ERROR 2");
        formula("1/0", "ERROR 3");
        formula("1%0", "ERROR 3");
        formula("1/B2", "ERROR 3");
        formula("1000000000000+1", "ERROR 3");
        formula("-1000000000000-1", "ERROR 3");
        formula("1000000*1000001", "ERROR 3");
        formula("1000000000000+1-1", "ERROR 3");
        formula("A4", "ERROR 3");
        formula("A4+A5", "ERROR 3");
        formula("A5+A4", "ERROR 2");
        formula("A3+A4", "ERROR 3");
        formula("1/0+A5", "ERROR 3");
        formula("A5*(1/0)", "ERROR 2");
        formula("1*(A4+A5)", "ERROR 3");
        formula("count(nobody)", "ERROR 4");
        formula("count(nobody)+A4", "ERROR 4");
        formula("A4+count(nobody)", "ERROR 3");
        formula("B1+count(nobody)", "ERROR 1");
        House h = with("A1=1/0");
        House.due("kind of an ERROR", h.x.sheet(0, 0, 0), 2);
        House.due("the ERROR", h.x.sheet(0, 0, 1), 3);
    }

    private static void ranges() {
        formula("sum(A1:A3)", "2");
        formula("count(A1:A3)", "3");
        formula("count(A1:A2)+count(C1:F12)", "2");
        formula("sum(C1:F12)", "0");
        formula("sum(A1:A1)", "5");
        formula("sum(A1:A4)", "ERROR 3");
        formula("count(A1:A5)", "ERROR 3");
        formula("sum(A5:A5)", "ERROR 2");
        formula("sum(A1:B3)", "ERROR 1");
        House h = with("A1=1", "B1=2", "A2=4", "B2=8", "C1=16", "C2=word", "D1=sum(A1:B2)", "D2=sum(B1:C2)", "D3=count(A1:C3)", "D4=sum(B2:C2)");
        House.due("D1", h.cellAt("D1"), "15");
        House.due("D2", h.cellAt("D2"), "26");
        House.due("D3", h.cellAt("D3"), "6");
        House.due("D4", h.cellAt("D4"), "8");
        House g = with("A2=a+1", "B1=1/0", "C1=sum(A1:B2)", "C2=count(A1:B2)", "C3=sum(A2:B2)");
        House.due("by columns of the first row, then the next", g.cellAt("C1"), "ERROR 3");
        House.due("count likewise", g.cellAt("C2"), "ERROR 3");
        House.due("the next row", g.cellAt("C3"), "ERROR 2");
        House b = with("A1=900000000000", "A2=900000000000", "A3=-900000000000", "A4=1/0+0", "B1=sum(A1:A2)", "B2=sum(A1:A3)", "B3=sum(A1:A4)", "A5=a+0", "B4=sum(A1:A2)+A5",
            "B5=sum(A4:A5)");
        House.due("out of bounds", b.cellAt("B1"), "ERROR 3");
        House.due("out of bounds as a whole alone", b.cellAt("B2"), "900000000000");
        House.due("a cell's ERROR", b.cellAt("B3"), "ERROR 3");
        House.due("the first operand's", b.cellAt("B4"), "ERROR 3");
        House.due("the first cell's", b.cellAt("B5"), "ERROR 3");
        House e = with("A1=900000000000", "A2=900000000000", "A3=a+0", "B1=sum(A1:A3)");
        House.due("an ERROR goes ahead of out of bounds", e.cellAt("B1"), "ERROR 2");
    }

    private static void names() {
        House h = new House();
        h.program("input e/2. p(X) :- e(X,_). none(X) :- e(X,X). big(900000000000). big(900000000001).");
        h.change("+e(3,5). +e(2,a). +e(b,-7).");
        String[][] due = {{"count(e)", "3"}, {"count(p)", "3"}, {"count(none)", "0"}, {"sum(e,1)", "5"}, {"sum(e,2)", "-2"}, {"least(e,1)", "2"},
            {"most(e,1)", "b"}, {"least(e,2)", "-7"}, {"most(e,2)", "a"}, {"sum(none,1)", "0"}, {"least(none,1)", "0"}, {"most(none,1)", "0"},
            {"sum(e,3)", "ERROR 4"}, {"least(p,2)", "ERROR 4"}, {"count(nobody)", "ERROR 4"}, {"sum(big,1)", "ERROR 3"}, {"count(e)+sum(p,1)", "8"},
            {"most(big,1)", "900000000001"}};
        for (int i = 0; i < due.length; i++) {
            h.cell((char) ('A' + i % 6) + Integer.toString(i / 6 + 1) + "=" + due[i][0]);
        }
        h.x.round();
        for (int i = 0; i < due.length; i++) {
            House.due(due[i][0], h.cellAt((char) ('A' + i % 6) + Integer.toString(i / 6 + 1)), due[i][1]);
        }
        h.round("-e(2,a). +e(7,7).");
        House.due("count(e) behind changes", h.cellAt("A1"), "3");
        House.due("none has a row", h.cellAt("C1"), "1");
        House.due("sum(e,1)", h.cellAt("D1"), "10");
        House.due("most(e,1)", h.cellAt("A2"), "b");
        h.program("input e/1. p(9,9).");
        h.x.round();
        House.due("another n: no rows", h.cellAt("A1"), "0");
        House.due("k above its n", h.cellAt("E1"), "ERROR 4");
        House.due("least(p,2) is one now", h.cellAt("B3"), "9");
        House.due("none is no more", h.cellAt("C1"), "ERROR 4");
    }

    private static void conditions() {
        formula("if(1,2,3)", "2");
        formula("if(0,2,3)", "3");
        formula("if(-1,2,3)", "2");
        formula("if(word,2,3)", "2");
        formula("if(C1,2,3)", "3");
        formula("if(A1-5,2,3)", "3");
        formula("if(1,A3,1/0)", "word");
        formula("if(0,1/0,A3)", "word");
        formula("if(1,1/0,3)", "ERROR 3");
        formula("if(A5,2,3)", "ERROR 2");
        formula("if(1/0,A5,A5)", "ERROR 3");
        formula("if(if(0,0,1),if(0,7,8),9)", "8");
        formula("if(0,1,if(0,2,if(1,3,4)))", "3");
        formula("1+if(1,2,3)*if(0,4,5)", "11");
        formula("if(1,2,3)+if(A4,1,1)", "ERROR 3");
        formula("10-if(1,2+3*2,4)-1", "1");
        formula("if(A4,1,1)+A5", "ERROR 3");
        formula("(if(0,1,2+(3-1)))*2", "8");
    }

    private static void rings() {
        House h = with("A1=A1", "B1=C1", "C1=D1+1", "D1=if(0,B1,5)", "E1=B1+1", "F1=if(1,7,B1)", "A2=sum(A1:A3)", "A3=4", "B2=count(A2:A2)");
        House.due("itself", h.cellAt("A1"), "ERROR 1");
        House.due("round about", h.cellAt("B1"), "ERROR 1");
        House.due("round about", h.cellAt("C1"), "ERROR 1");
        House.due("by what is not looked at", h.cellAt("D1"), "ERROR 1");
        House.due("it reads a ring", h.cellAt("E1"), "ERROR 1");
        House.due("it doesn't look at the ring", h.cellAt("F1"), "7");
        House.due("by a range", h.cellAt("A2"), "ERROR 1");
        House.due("in the ring's range", h.cellAt("A3"), "4");
        House.due("count of an ERROR", h.cellAt("B2"), "ERROR 1");
        h.cell("D1=5");
        h.x.round();
        House.due("the ring is broken", h.cellAt("B1"), "6");
        House.due("what reads it", h.cellAt("E1"), "7");
        h.cell("D1=E1");
        h.x.round();
        House.due("a greater ring", h.cellAt("E1"), "ERROR 1");
        House.due("whatever else", with("A1=A1+1/0").cellAt("A1"), "ERROR 1");
        House.due("whatever else", with("A1=if(1,count(nobody),A1)").cellAt("A1"), "ERROR 1");
    }

    private static void pendingTexts() {
        House h = new House();
        House.due("column + 6 * row", h.cell("C5=1"), 2 + 6 * 4);
        House.due("it is not there yet", h.cellAt("C5"), "EMPTY");
        h.cell("C5=2");
        h.x.line(1);
        h.x.round();
        House.due("it is of its line", h.cellAt("C5"), "EMPTY");
        h.x.line(0);
        h.x.round();
        House.due("in place of the one ahead", h.cellAt("C5"), "2");
        House.due("WORKED", h.worked("C5"), 1);
        h.cell("C5=3");
        h.cell("C5=!");
        h.x.round();
        House.due("a wrong text does nothing", h.cellAt("C5"), "3");
        House.due("no CHANGES", h.x.count(4), 0);
        h.program("p(1).");
        h.cell("C5=count(p)");
        h.program("p(1). p(2).");
        h.x.round();
        House.due("program() leaves CELLS", h.cellAt("C5"), "2");
    }

    private static void workedByTexts() {
        House h = with("A1=5", "B1=A1+1", "C1=B1*0", "D1=C1", "E1=if(1,2,A1)");
        h.x.round();
        due(h, "once each", 1, 1, 1, 1, 1);
        h.cell("A1=6");
        h.x.round();
        due(h, "C1 stays 0, so D1 isn't; E1 reads it all the same", 2, 2, 2, 1, 2);
        h.cell("A1=6");
        h.x.round();
        due(h, "the same text is a new one, its VALUE isn't", 3, 2, 2, 1, 2);
        h.cell("A1=");
        h.x.round();
        due(h, "an EMPTY one isn't", 3, 3, 3, 1, 3);
        h.cell("A1=0");
        h.x.round();
        due(h, "EMPTY and 0 are two VALUES", 4, 4, 3, 1, 4);
        h.cell("C1=");
        h.x.round();
        due(h, "C1's count stays, D1 reads another VALUE", 4, 4, 3, 2, 4);
        h.x.back(1);
        due(h, "counts stay behind back()", 4, 4, 3, 2, 4);
    }

    private static void due(House h, String what, long... counts) {
        for (int i = 0; i < counts.length; i++) {
            String cell = (char) ('A' + i) + "1";
            House.due(what + ": " + cell, h.worked(cell), counts[i]);
        }
    }

    private static void workedByRows() {
        House h = new House();
        h.program("input e/1. input f/1. p(X) :- e(X), X < 5.");
        h.cell("A1=count(e)");
        h.cell("B1=count(p)");
        h.cell("C1=A1+B1");
        h.cell("D1=if(1,0,sum(f,1))");
        h.cell("E1=count(nobody)");
        h.x.round();
        due(h, "first", 1, 1, 1, 1, 1);
        h.round("+e(9).");
        due(h, "p is not CHANGED", 2, 1, 2, 1, 1);
        h.round("-e(9). +e(8).");
        due(h, "rows are CHANGED, the VALUE isn't", 3, 1, 2, 1, 1);
        h.round("+f(1).");
        due(h, "also what is not looked at", 3, 1, 2, 2, 1);
        h.round("+e(1).");
        due(h, "both", 4, 2, 3, 2, 1);
        h.change("+e(1).");
        h.x.round();
        due(h, "nothing", 4, 2, 3, 2, 1);
    }

    private static void workedByEditions() {
        House h = new House();
        h.program("input e/1.");
        h.cell("A1=count(e)");
        h.cell("B1=A1");
        h.cell("C1=if(1,1,count(nobody))");
        h.cell("D1=5");
        h.x.round();
        h.program("input e/1.");
        h.x.round();
        due(h, "each that reads a NAME", 2, 1, 2, 1);
        h.program("e(1). e(2). e(X) :- e(X). e(Y) :- e(X), Y = X + 1.");
        House.due("a round that is REFUSED", h.x.round(), -1);
        due(h, "none", 2, 1, 2, 1);
        h.program("e(1). e(2).");
        h.x.round();
        due(h, "and what reads these", 3, 2, 3, 1);
        h.x.branch(1, 1);
        h.x.line(1);
        due(h, "a BRANCH has none", 0, 0, 0, 0);
        House.due("but its VALUES", h.cellAt("C1"), "1");
    }

    private static void workedInRings() {
        House h = with("A1=B1+D1", "B1=A1", "C1=A1", "D1=1", "E1=2");
        due(h, "a ring", 1, 1, 1, 1, 1);
        h.cell("D1=2");
        h.x.round();
        due(h, "A1 reads D1; its VALUE stays", 2, 1, 1, 2, 1);
        h.cell("B1=3");
        h.x.round();
        due(h, "broken", 3, 2, 2, 2, 1);
        h.cell("D1=C1");
        h.x.round();
        House.due("another ring", h.cellAt("C1"), "ERROR 1");
        due(h, "another ring", 4, 2, 3, 3, 1);
    }

    private static void chains() {
        House h = new House();
        h.cell("A1=1");
        for (int i = 1; i < 72; i++) {
            // Each cell reads the one ahead; told from the last one on.
            int c = 72 - i;
            h.cell(name(c) + "=" + name(c - 1) + "+1");
        }
        h.x.round();
        House.due("72 cells", h.cellAt("F12"), "72");
        h.cell("A1=sum(B1:F1)");
        h.x.round();
        House.due("a ring of six cells", h.cellAt("F1"), "ERROR 1");
        House.due("and all behind it", h.cellAt("F12"), "ERROR 1");
        House.due("WORKED once a round", h.worked("F12"), 2);
        h.cell("A1=F12");
        h.x.round();
        House.due("a ring of all cells", h.cellAt("C7"), "ERROR 1");
        h.cell("A1=100");
        h.x.round();
        House.due("and none", h.cellAt("F12"), "171");
    }

    private static String name(int cell) {
        return (char) ('A' + cell % 6) + Integer.toString(cell / 6 + 1);
    }

    private static void noSuchCell() {
        House h = new House();
        House.throwsNone("sheet(6, 0, 0)", () -> h.x.sheet(6, 0, 0));
        House.throwsNone("sheet(-1, 0, 0)", () -> h.x.sheet(-1, 0, 0));
        House.throwsNone("sheet(0, 12, 0)", () -> h.x.sheet(0, 12, 0));
        House.throwsNone("sheet(0, -1, 9)", () -> h.x.sheet(0, -1, 9));
        House.due("sheet(5, 11, 0)", h.x.sheet(5, 11, 0), 0);
        House.due("sheet(0, 0, 3)", h.x.sheet(0, 0, 3), ChangeHouse.NONE);
        House.due("sheet(0, 0, -1)", h.x.sheet(0, 0, -1), ChangeHouse.NONE);
    }
}

/** Each sentence of III and VI that names an edge of THE PAST, of BACK, BRANCH and MERGE. */
public final class EdgesOfLinesTest extends Marks {
    public static void main(String[] args) {
        eightThousandRows();
        eightThousandRowsInOneRound();
        hundredCells();
        sevenEditions();
        oldestNeverGoesDown();
        roundsOfThePast();
        backToARound();
        backLeavesWorked();
        linesAreFour();
        branchNumbers();
        branchIsAsTheLineWas();
        branchOfABranch();
        oldestOfABranch();
        mergeNumbers();
        mergeTellsWhatBHas();
        mergeInItsOrder();
        mergeByNameAndN();
        mergeLeavesPendingOfB();
        mergeOfOtherEditions();
        forkLostByTheLine();
        forkLostByTheBranch();
        forkLostByOldest();
        forkAtOldest();
        fourHundredByMerge();
        answersInTheirOrder();
        meetings();
        meetingKeys();
        metNumbers();
        House.end();
    }

    private static House ready() {
        House h = new House();
        h.start("input e/2 key 1. input f/1. p(X):-e(X,_),not f(X).", "+e(1,1). +e(2,2).");
        return h;
    }

    private static String rows(String sign, int from, int to) {
        return repeat(sign + "f(#).", from, to);
    }

    // Two INPUTS, and fourteen predicates with 50 rows each that e's one row moves: a round moves 2 + 1400 rows, in few calls.
    private static final String MANY = "input e/1. input f/1. " + repeat("p#(X,Y):-n(X),e(Y).", 0, 13) + "n(0). n(Y):-n(X),Y=X+1,Y<50.";

    /** Rounds until so many rows are moved just; how many rounds. */
    private static int move(House h, int rows) {
        int all = h.start(MANY, "+e(0).");
        int rounds = 1;
        for (; all + 1302 <= rows; rounds++) {
            int moved = h.round("-e(" + (rounds - 1) + "). +e(" + rounds + ").");
            House.due("rows a round", moved, 1302);
            all += moved;
        }
        int told = 0;
        for (; all < rows; rounds++) {
            int more = Math.min(90, rows - all);
            all += h.round(rows(told % 2 == 0 ? "+" : "-", 0, more));
            told++;
        }
        House.due("rows that were moved", all, rows);
        return rounds;
    }

    // "OLDEST is the least round so that all rows that came or went in rounds behind it are 8000 at most"
    private static void eightThousandRows() {
        House h = new House();
        int rounds = move(h, 7999);
        House.due("7999", h.x.count(1), 0);
        h.round("+f(1000).");
        House.due("8000", h.x.count(1), 0);
        House.due("round 0 is in THE PAST", h.x.back(rounds + 1), 0);
        h.x.round();
        House.due("a round of nothing", h.x.count(1), 0);
        h.round("-f(1000).");
        House.due("8001", h.x.count(1), 1);
        House.due("past(0, 0)", h.x.past(0, 0), NONE);
        House.due("back(0)", h.x.back(0), NONE);
        House.due("branch(1, 0)", h.x.branch(1, 0), NONE);
        House.due("past(1, 0)", h.x.past(1, 0), 1);
        House.due("branch(1, 1)", h.x.branch(1, 1), 1);
        House.due("back(1)", h.x.back(1), rounds + 2);
    }

    // One round may move more rows than the others leave place for: then OLDEST is that round, or the one ahead of it.
    private static void eightThousandRowsInOneRound() {
        House h = new House();
        h.start("input e/1. input f/1. input g/1." + repeat("p#(X,Y):-f(X),e(Y).", 0, 13), "+e(0).");
        h.round(rows("+", 0, 99));
        int all = 1;
        int moved = 99 + 13 * 99;
        all += moved;
        int rounds = 2;
        for (; all + 2 + 2 * 13 * 99 <= 8000; rounds++) {
            all += h.round("-e(" + (rounds - 2) + "). +e(" + (rounds - 1) + ").");
        }
        House.due("rows", all, 1 + 1386 + 2 * 2576);
        House.due("OLDEST", h.x.count(1), 0);
        // 6539 + 2576 = 9115; behind round 1: 9114; behind round 2: 7728.
        h.round("-e(" + (rounds - 2) + "). +e(" + (rounds - 1) + ").");
        House.due("OLDEST: 9114 rows behind round 1, 7728 behind round 2", h.x.count(1), 2);
        h.change(rows("-", 0, 99).substring(0, rows("-", 0, 50).length()));
        int went = h.round(rows("-", 50, 99));
        House.due("all rows go", went, 99 + 13 * 99);
        House.due("OLDEST: 9114 behind round 2, 6538 behind round 3", h.x.count(1), 3);
    }

    // "CELLS that got texts in them 100"
    private static void hundredCells() {
        House h = new House();
        h.cell("A1=1");
        h.x.round();
        for (int r = 0; r < 9; r++) {
            for (int i = 0; i < 11; i++) {
                h.cell((char) ('A' + i % 6) + Integer.toString(1 + i / 6) + (i % 2 == 0 ? "=" : "=1"));
            }
            h.x.round();
        }
        House.due("100", h.x.count(1), 0);
        House.due("round 0 is in THE PAST", h.x.branch(3, 0), 0);
        h.x.round();
        House.due("a round without", h.x.count(1), 0);
        h.cell("F12=1");
        h.cell("F12=2");
        h.cell("F12=");
        h.x.round();
        House.due("101: three texts for one cell are one, an EMPTY one too", h.x.count(1), 1);
        House.due("back(0)", h.x.back(0), NONE);
        h.cell("A1=1");
        h.x.forget();
        h.cell("A1=!");
        h.x.round();
        House.due("what is forgotten or WRONG is none", h.x.count(1), 1);
        for (int i = 0; i < 72; i++) {
            h.cell((char) ('A' + i % 6) + Integer.toString(1 + i / 6) + "=" + i);
        }
        h.x.round();
        // 72 + 1 leave 27: two rounds of 11 more.
        House.due("72 in one round", h.x.count(1), 8);
        House g = new House();
        for (int i = 0; i < 72; i++) {
            g.cell((char) ('A' + i % 6) + Integer.toString(1 + i / 6) + "=" + i);
        }
        g.x.round();
        for (int i = 0; i < 28; i++) {
            g.cell((char) ('A' + i % 6) + Integer.toString(1 + i / 6) + "=" + i);
        }
        g.x.round();
        House.due("72 + 28", g.x.count(1), 0);
        g.cell("A1=1");
        g.x.round();
        House.due("72 + 28 + 1", g.x.count(1), 1);
    }

    // "EDITIONS that were taken in them 7"
    private static void sevenEditions() {
        House h = new House();
        for (int i = 1; i <= 7; i++) {
            h.start("p(" + i + ").", "");
            House.due("EDITIONS " + i, h.x.count(1), 0);
        }
        h.program("p(1). p(X+1):-p(X).");
        House.due("a REFUSED one is not taken", h.x.round(), -1);
        h.program("p(9).");
        h.x.forget();
        h.x.round();
        House.due("nor one that is forgotten", h.x.count(1), 0);
        h.start("p(7).", "");
        House.due("8, though its text is the same", h.x.count(1), 1);
        House.due("EDITIONS", h.x.count(7), 8);
        h.start("p(8).", "");
        House.due("9", h.x.count(1), 2);
        House.due("past(1, 0)", h.x.past(1, 0), NONE);
        House.due("past(2, 0)", h.x.pastValue(2, 0, 0, 0), 2);
    }

    // "(it never goes down)"
    private static void oldestNeverGoesDown() {
        House h = new House();
        for (int i = 1; i <= 8; i++) {
            h.start("p(" + i + ").", "");
        }
        House.due("OLDEST", h.x.count(1), 1);
        House.due("back to it", h.x.back(1), 7);
        House.due("OLDEST stays", h.x.count(1), 1);
        h.x.round();
        House.due("with a round of nothing too", h.x.count(1), 1);
        House.due("no further", h.x.back(0), NONE);
        for (int i = 2; i <= 8; i++) {
            h.start("p(" + i + ").", "");
            House.due("7 more may be taken", h.x.count(1), 1);
        }
        h.start("p(9).", "");
        // Rounds behind 1: one of nothing, then eight EDITIONS; behind round 3 there are seven.
        House.due("the 8th", h.x.count(1), 3);
    }

    // "Round 0 and the present one belong to THE PAST (as long as OLDEST allows)."
    private static void roundsOfThePast() {
        House h = ready();
        h.round("+f(1).");
        House.due("round 0", h.x.past(0, 0), NONE);
        House.due("round 0 for branch()", h.x.branch(1, 0), 0);
        House.due("round 1", h.x.past(1, 2), 2);
        House.due("the present one", h.x.past(2, 2), 1);
        House.due("the present one for branch()", h.x.branch(1, 2), 2);
        House.due("the next one", h.x.past(3, 2), NONE);
        House.due("the next one for branch()", h.x.branch(1, 3), NONE);
        House.due("the next one for back()", h.x.back(3), NONE);
        House.due("-1 for back()", h.x.back(-1), NONE);
        House.due("-1 for branch()", h.x.branch(1, -1), NONE);
        House.due("the present one for back()", h.x.back(2), 0);
        House.due("round 0 for back()", h.x.back(0), 2);
    }

    // "BACK ...: the line is as it was behind it (its later rounds are gone; PENDING is empty ...)" "how many rounds are gone; NONE if it is none of it"
    private static void backToARound() {
        House h = ready();
        h.cell("A1=sum(e,2)");
        h.round("+e(3,3).");
        h.start("input e/2 key 1. q(X):-e(X,_). q(9).", "+e(4,4).");
        h.cell("A1=");
        h.x.round();
        h.change("+e(5,5).");
        h.cell("B1=1");
        h.program("z(1).");
        for (int round : new int[] {-1, 5, Integer.MIN_VALUE, Integer.MAX_VALUE}) {
            House.due("back(" + round + ")", h.x.back(round), NONE);
        }
        h.x.forget();
        h.program("z(1).");
        h.cell("B1=1");
        House.due("two are gone", h.x.back(2), 2);
        House.due("ROUNDS, predicates, RULES, EDITIONS, PENDING", h.x.count(0) * 10000 + h.x.count(2) * 1000 + h.x.count(3) * 100 + h.x.count(7) * 10 + h.x.count(4), 23110);
        House.due("rows", h.rows(0) + " / " + h.rows(2), "1,1 2,2 3,3 / 1 2 3");
        House.due("A1", h.cellAt("A1"), "6");
        House.due("the later ones are gone", h.x.past(3, 0), NONE);
        House.due("nothing is pending", h.x.round(), 0);
        House.due("nothing came of it", h.cellAt("B1") + h.x.count(7), "EMPTY1");
        h.change("+f(1).");
        House.due("to the present one", h.x.back(3), 0);
        House.due("PENDING is empty", h.x.count(4), 0);
        h.x.back(1);
        House.due("A1 has no text", h.cellAt("A1"), "EMPTY");
        House.due("to round 0", h.x.back(0), 1);
        House.due("nothing is there", h.x.count(2) + h.x.count(3) + h.x.count(6) + h.x.count(7), 0);
    }

    // "WORKED counts stay"
    private static void backLeavesWorked() {
        House h = ready();
        h.cell("A1=count(e)");
        h.round("+e(3,3).");
        h.round("+e(4,4).");
        House.due("p", h.x.predicate(2, 5), 3);
        House.due("A1", h.worked("A1"), 2);
        h.x.back(2);
        House.due("p behind back()", h.x.predicate(2, 5), 3);
        House.due("A1 behind back()", h.worked("A1"), 2);
        h.x.back(1);
        House.due("A1 has no text, but its count", h.cellAt("A1") + h.worked("A1"), "EMPTY2");
        h.x.back(0);
        h.start("input e/2 key 1. input f/1. p(X):-e(X,_),not f(X).", "");
        House.due("p of a new EDITION", h.x.predicate(2, 5), 1);
        House.due("A1", h.worked("A1"), 2);
    }

    // "Goes to line k: the line at which one was; NONE, and nothing happens, if there is none such."
    private static void linesAreFour() {
        House h = ready();
        for (int k : new int[] {-1, 4, Integer.MIN_VALUE, Integer.MAX_VALUE}) {
            House.due("line(" + k + ")", h.x.line(k), NONE);
            House.due("still at 0", h.x.count(5), 0);
        }
        House.due("line(3)", h.x.line(3), 0);
        House.due("line(1)", h.x.line(1), 3);
        House.due("line(1)", h.x.line(1), 1);
        House.due("line(4)", h.x.line(4), NONE);
        House.due("still at 1", h.x.count(5), 1);
        House.due("line(2)", h.x.line(2), 1);
        House.due("line(0)", h.x.line(0), 2);
        House.due("its rows", h.rows(0), "1,1 2,2");
    }

    // "NONE if k is the line at which one is, or none, or the round is none of THE PAST"
    private static void branchNumbers() {
        House h = ready();
        for (int k : new int[] {-1, 0, 4, Integer.MIN_VALUE, Integer.MAX_VALUE}) {
            House.due("branch(" + k + ", 1)", h.x.branch(k, 1), NONE);
        }
        for (int round : new int[] {-1, 2, Integer.MIN_VALUE, Integer.MAX_VALUE}) {
            House.due("branch(1, " + round + ")", h.x.branch(1, round), NONE);
        }
        House.due("no FORK came of it", h.x.merge(1), -1);
        for (int k = 1; k <= 3; k++) {
            House.due("branch(" + k + ", 1)", h.x.branch(k, 1), 1);
            House.due("branch(" + k + ", 0)", h.x.branch(k, 0), 0);
        }
        h.x.line(3);
        House.due("branch(3, 0) at line 3", h.x.branch(3, 0), NONE);
        House.due("branch(0, 0) at line 3", h.x.branch(0, 0), 0);
    }

    // "BRANCH: another line becomes as this one was behind a round of THE PAST (its PAST up to there, too; WORKED counts 0, PENDING empty)"
    // "has all as told there (EDITIONS of count 7, ROUNDS, CELLS too as behind that round)"
    private static void branchIsAsTheLineWas() {
        House h = ready();
        h.cell("A1=count(p)");
        h.round("+e(3,3).");
        h.start("input e/2 key 1. q(X):-e(X,_).", "");
        h.change("+e(9,9).");
        h.x.line(2);
        h.start("y(1). x(1). z(1). z(2).", "");
        h.cell("A1=7");
        h.cell("B1=7");
        h.x.round();
        h.program("y(1).");
        h.change("");
        h.cell("C1=7");
        h.x.line(0);
        House.due("branch(2, 2)", h.x.branch(2, 2), 2);
        House.due("this line's PENDING stays", h.x.count(4), 1);
        House.due("this line stays", h.x.count(0) * 10 + h.x.count(7), 32);
        h.x.line(2);
        House.due("ROUNDS, predicates, RULES, EDITIONS, PENDING", h.x.count(0) * 10000 + h.x.count(2) * 1000 + h.x.count(3) * 100 + h.x.count(7) * 10 + h.x.count(4), 23110);
        House.due("rows", h.rows(0) + " / " + h.rows(2), "1,1 2,2 3,3 / 1 2 3");
        House.due("CELLS", h.cellAt("A1") + h.cellAt("B1"), "3EMPTY");
        House.due("WORKED counts", h.x.predicate(2, 5) + h.worked("A1") + h.worked("B1"), 0);
        House.due("its PAST", h.x.past(1, 0) * 10 + h.x.past(2, 0), 23);
        House.due("up to there", h.x.past(3, 0), NONE);
        House.due("no PENDING", h.x.round(), 0);
        House.due("neither CELL nor EDITION", h.cellAt("C1") + h.x.count(7), "EMPTY1");
        House.due("it goes on by itself", h.round("+f(1)."), 2);
        House.due("BACK ahead of the FORK", h.x.back(1), 3);
        House.due("as it was there", h.rows(0) + h.cellAt("A1"), "1,1 2,2EMPTY");
        h.x.line(0);
        House.due("the other line has no part in it", h.x.count(0) * 100 + h.x.count(6), 306);
    }

    private static void branchOfABranch() {
        House h = ready();
        h.x.branch(1, 1);
        h.x.line(1);
        h.round("+f(1).");
        h.x.branch(2, 2);
        h.x.line(2);
        h.round("+f(2).");
        House.due("its PAST is that of both", h.x.past(1, 2) * 100 + h.x.past(2, 2) * 10 + h.x.past(3, 2), 210);
        h.x.line(1);
        House.due("a FORK of line 1", h.x.merge(2), 1);
        h.x.line(0);
        House.due("no FORK of line 0", h.x.merge(2), -1);
        House.due("line 1 has one", h.x.merge(1), 1);
    }

    // "A BRANCH's OLDEST is that of the line it is of."
    private static void oldestOfABranch() {
        House h = new House();
        for (int i = 1; i <= 9; i++) {
            h.start("p(" + i + ").", "");
        }
        House.due("OLDEST", h.x.count(1), 2);
        House.due("branch(1, 1)", h.x.branch(1, 1), NONE);
        House.due("branch(1, 2)", h.x.branch(1, 2), 2);
        House.due("branch(2, 9)", h.x.branch(2, 9), 9);
        h.x.line(1);
        House.due("OLDEST of line 1", h.x.count(1), 2);
        House.due("its past(1, 0)", h.x.past(1, 0), NONE);
        House.due("its past(2, 0)", h.x.pastValue(2, 0, 0, 0), 2);
        House.due("back(1)", h.x.back(1), NONE);
        h.start("p(1).", "");
        House.due("OLDEST of line 1 with one EDITION more", h.x.count(1), 2);
        h.x.line(2);
        h.start("p(1).", "");
        House.due("OLDEST of line 2 with one EDITION more", h.x.count(1), 3);
        h.x.line(0);
        House.due("OLDEST of line 0", h.x.count(1), 2);
        // A line whose OLDEST was higher becomes a BRANCH of one whose OLDEST is lower.
        h.x.line(3);
        House.due("of a new line", h.x.branch(2, 0), 0);
        h.x.line(2);
        House.due("OLDEST of line 2", h.x.count(1), 0);
    }

    // "-1 if k is the line at which one is, or none, or has no FORK of this line in its PAST"
    private static void mergeNumbers() {
        House h = ready();
        for (int k : new int[] {-1, 0, 1, 2, 3, 4, Integer.MIN_VALUE, Integer.MAX_VALUE}) {
            House.due("merge(" + k + ")", h.x.merge(k), -1);
        }
        h.x.branch(3, 1);
        House.due("merge(3)", h.x.merge(3), 0);
        House.due("merge(2)", h.x.merge(2), -1);
        h.x.line(3);
        House.due("of the line that it comes from", h.x.merge(0), -1);
        House.due("of itself", h.x.merge(3), -1);
    }

    // "rows that B has now and had not at the FORK, and the other way round, whether A has them or not"
    private static void mergeTellsWhatBHas() {
        House h = ready();
        h.round("+f(1). +f(2).");
        h.x.branch(1, 2);
        h.x.line(1);
        h.round("+f(3). -f(1). +f(4).");
        h.round("-f(4). +e(7,7).");
        h.x.line(0);
        h.round("+f(3). -f(1).");
        House.due("f: -1 +3; e: +7,7", h.x.merge(1), 3);
        House.due("they are CHANGES", h.x.count(4), 3);
        House.due("two of them do nothing", h.x.round(), 2);
        House.due("rows", h.rows(0) + " / " + h.rows(1), "1,1 2,2 7,7 / 2 3");
        House.due("what is no INPUT's is none", h.x.merge(1), 3);
        h.x.forget();
        h.x.line(1);
        h.x.back(2);
        h.x.line(0);
        House.due("nothing came or went", h.x.merge(1), 0);
        House.due("no CHANGE", h.x.count(4), 0);
    }

    // "predicates by their numbers, - ahead of +, rows in THE ORDER" "of a predicate all - and then all +"
    private static void mergeInItsOrder() {
        House h = new House();
        h.start("input e/2 key 1.", "+e(1,1). +e(2,2). +e(3,3).");
        h.x.branch(1, 1);
        h.x.line(1);
        h.round("+e(1,5). +e(3,6). -e(2,2).");
        h.x.line(0);
        House.due("three - and two +", h.x.merge(1), 5);
        h.x.round();
        House.due("rows", h.rows(0), "1,5 3,6");
        House g = new House();
        g.start("input e/2 key 1.", "+e(1,1).");
        g.x.branch(1, 1);
        g.x.line(1);
        g.round("+e(1,2).");
        g.x.line(0);
        g.change("+e(1,9).");
        House.due("behind A's PENDING", g.x.merge(1), 2);
        g.x.round();
        House.due("B's row is the last", g.rows(0), "1,2");
        g.x.back(1);
        g.x.merge(1);
        g.change("+e(1,9).");
        g.x.round();
        House.due("A's row is the last", g.rows(0), "1,9");
    }

    // "CHANGES by NAME and n, if an EDITION is PENDING (those that are no INPUT's of it do nothing, and count)"
    private static void mergeByNameAndN() {
        House h = new House();
        h.start("input a/1. input b/1. input c/2. input d/2 key 1.", "");
        h.x.branch(1, 1);
        h.x.line(1);
        h.round("+a(1). +b(1). +c(1,1). +d(1,1).");
        h.x.line(0);
        h.program("input d/2. input c/1. b(5). input a/1. input x/1.");
        House.due("all four count", h.x.merge(1), 4);
        House.due("PENDING", h.x.count(4), 4);
        House.due("a(1), d(1,1), and b(5) by its rule", h.x.round(), 3);
        House.due("rows", h.rows(0) + " / " + h.rows(1) + " / " + h.rows(2) + " / " + h.rows(3), "1,1 /  / 5 / 1");
        House.due("now A's EDITION is another", h.x.merge(1), -2);
        h.x.back(1);
        h.program("q(1).");
        House.due("none is an INPUT's of it", h.x.merge(1), 4);
        House.due("forget() counts them", h.x.forget(), 4);
        h.x.merge(1);
        h.program("input a/1. input b/1.");
        House.due("program() takes them away", h.x.count(4), 0);
    }

    // "B's PENDING doesn't count."
    private static void mergeLeavesPendingOfB() {
        House h = ready();
        h.x.branch(1, 1);
        h.x.line(1);
        h.change("+f(1).");
        h.x.line(0);
        House.due("B's CHANGES", h.x.merge(1), 0);
        h.x.line(1);
        House.due("are still there", h.x.count(4), 1);
        h.program("input f/1.");
        h.x.line(0);
        House.due("B's next EDITION", h.x.merge(1), 0);
        h.x.line(1);
        House.due("is taken later", h.x.round(), 4);
        h.x.line(0);
        House.due("and is another then", h.x.merge(1), -2);
    }

    // "A line has the FORK's EDITION if it took none since (but ones that it went BACK from)." "An EDITION is new also if its text is the same."
    private static void mergeOfOtherEditions() {
        String text = "input e/2 key 1. input f/1. p(X):-e(X,_),not f(X).";
        House h = ready();
        h.x.branch(1, 1);
        h.start(text, "");
        House.due("A took one", h.x.merge(1), -2);
        h.x.back(1);
        House.due("A went BACK from it", h.x.merge(1), 0);
        h.x.line(1);
        h.start(text, "+f(1).");
        h.x.line(0);
        House.due("B took one", h.x.merge(1), -2);
        h.start(text, "+f(1).");
        House.due("both took one", h.x.merge(1), -2);
        h.x.back(1);
        h.x.line(1);
        h.x.back(1);
        h.round("+f(2).");
        h.x.line(0);
        House.due("both went BACK", h.x.merge(1), 1);
        // A FORK ahead of the EDITION of both.
        House g = new House();
        g.x.branch(1, 0);
        House.due("no EDITION yet", g.x.merge(1), 0);
        g.start(text, "");
        House.due("A has one", g.x.merge(1), -2);
        g.x.branch(2, 1);
        House.due("a FORK with it", g.x.merge(2), 0);
    }

    // "A FORK is lost when the line it is of goes BACK to a round earlier than it, becomes a BRANCH"
    private static void forkLostByTheLine() {
        House h = ready();
        h.round("+f(1).");
        h.round("+f(2).");
        h.x.branch(1, 2);
        h.x.branch(2, 1);
        House.due("BACK to a later round", h.x.back(3), 0);
        House.due("it is there", h.x.merge(1), 0);
        House.due("BACK to the FORK", h.x.back(2), 1);
        House.due("it is there", h.x.merge(1), 0);
        House.due("BACK to a round earlier", h.x.back(1), 1);
        House.due("it is lost", h.x.merge(1), -1);
        House.due("the FORK at round 1 isn't", h.x.merge(2), 0);
        h.round("+f(1).");
        h.round("+f(2).");
        House.due("for good", h.x.merge(1), -1);
        h.x.line(3);
        House.due("line 0 becomes a BRANCH", h.x.branch(0, 0), 0);
        h.x.line(0);
        House.due("so the FORK of line 2 is lost", h.x.merge(2), -1);
        h.x.line(3);
        House.due("line 0 has one of line 3", h.x.merge(0), 0);
        // Line 0 may be a branch as well.
        House z = new House();
        z.x.line(1);
        z.start("input f/1.", "");
        z.round("+f(1).");
        z.x.branch(0, 2);
        House.due("line 0's FORK of line 1", z.x.merge(0), 0);
        z.x.back(1);
        House.due("is lost by BACK", z.x.merge(0), -1);
        z.round("+f(1).");
        House.due("for good", z.x.merge(0), -1);
        z.x.back(1);
        z.x.branch(0, 1);
        House.due("a new one", z.x.merge(0), 0);
        z.x.line(2);
        z.x.branch(1, 0);
        z.x.line(1);
        z.start("input f/1.", "");
        House.due("is lost when line 1 becomes a BRANCH", z.x.merge(0), -1);
        // A line's own FORK isn't lost when another line becomes a BRANCH.
        House g = ready();
        g.x.branch(1, 1);
        g.x.branch(2, 1);
        g.x.branch(1, 0);
        House.due("line 2's", g.x.merge(2), 0);
        House.due("line 1's is a new one: other EDITIONS", g.x.merge(1), -2);
    }

    // "or when the branch goes BACK to a round earlier than it"
    private static void forkLostByTheBranch() {
        House h = ready();
        h.round("+f(1).");
        h.x.branch(1, 2);
        h.x.line(1);
        h.round("+f(2).");
        h.x.back(2);
        h.x.line(0);
        House.due("BACK to the FORK", h.x.merge(1), 0);
        h.x.line(1);
        h.round("+f(2).");
        h.x.back(1);
        h.x.line(0);
        House.due("BACK to a round earlier", h.x.merge(1), -1);
        h.x.line(1);
        h.round("+f(1).");
        h.round("+f(2).");
        h.x.line(0);
        House.due("for good", h.x.merge(1), -1);
        House.due("until it becomes a BRANCH again", h.x.branch(1, 2), 2);
        House.due("a new FORK", h.x.merge(1), 0);
        // A FORK at round 0 can't be passed by BACK.
        House g = new House();
        g.x.branch(1, 0);
        g.x.line(1);
        g.x.round();
        g.x.back(0);
        g.x.line(0);
        g.x.round();
        g.x.back(0);
        House.due("a FORK at round 0", g.x.merge(1), 0);
    }

    // "or its OLDEST passes it"
    private static void forkLostByOldest() {
        House h = new House();
        h.start("input f/1.", "");
        h.x.branch(1, 1);
        h.x.branch(2, 0);
        for (int i = 0; i < 7; i++) {
            h.start("input f/1.", "");
        }
        House.due("OLDEST is the FORK", h.x.count(1), 1);
        House.due("it is there, EDITIONS are others", h.x.merge(1), -2);
        House.due("the one at round 0 is lost", h.x.merge(2), -1);
        h.start("input f/1.", "");
        House.due("OLDEST passed it", h.x.count(1), 2);
        House.due("it is lost", h.x.merge(1), -1);
        // The branch's own OLDEST has no part in it.
        House g = new House();
        g.start("input f/1.", "");
        g.x.branch(1, 1);
        g.x.line(1);
        for (int i = 0; i < 8; i++) {
            g.start("input f/1.", "");
        }
        House.due("the branch's OLDEST", g.x.count(1), 2);
        g.x.line(0);
        House.due("the FORK is there, EDITIONS are others", g.x.merge(1), -2);
    }

    private static void forkAtOldest() {
        House h = new House();
        for (int i = 1; i <= 8; i++) {
            h.start("input f/1.", "+f(" + i + ").");
        }
        House.due("OLDEST", h.x.count(1), 1);
        h.x.branch(1, 1);
        h.x.back(1);
        h.x.line(1);
        h.round("+f(7).");
        h.x.line(0);
        House.due("a FORK at OLDEST", h.x.merge(1), 1);
        h.x.round();
        House.due("rows", h.rows(0), "1 7");
    }

    // "-4 if more than 400 would be PENDING: nothing comes then"
    private static void fourHundredByMerge() {
        House h = new House();
        h.start("input f/1.", "+f(1).");
        h.x.branch(1, 1);
        h.x.line(1);
        h.round("-f(1). +f(2). +f(3).");
        h.x.line(0);
        h.change("+f(9).".repeat(397));
        House.due("397 and 3", h.x.merge(1), 3);
        House.due("400", h.x.count(4), 400);
        House.due("and 3", h.x.merge(1), -4);
        House.due("400 still", h.x.count(4), 400);
        House.due("no CHANGE more", h.change("+f(9)."), -6000);
        h.x.forget();
        h.change("+f(9).".repeat(398));
        House.due("398 and 3", h.x.merge(1), -4);
        House.due("nothing comes", h.x.count(4), 398);
        h.x.line(1);
        h.x.back(1);
        h.x.line(0);
        h.change("+f(9).+f(9).");
        House.due("400 and none", h.x.merge(1), 0);
    }

    // "-1, -2, -3, -4 in this order"
    private static void answersInTheirOrder() {
        House h = new House();
        h.start("input f/1. input e/2 key 1.", "");
        h.x.branch(1, 1);
        h.x.line(1);
        h.round("+e(1,1). +f(1).");
        h.x.line(0);
        h.round("+e(1,2).");
        h.change("+f(9).".repeat(400));
        House.due("-3 ahead of -4", h.x.merge(1), -3);
        House.due("PENDING", h.x.count(4), 400);
        h.x.forget();
        h.start("input f/1. input e/2 key 1.", "");
        h.change("+f(9).".repeat(400));
        House.due("-2 ahead of -3 and -4", h.x.merge(1), -2);
        h.x.back(0);
        House.due("-1 ahead of all", h.x.merge(1), -1);
        House g = new House();
        g.start("input f/1.", "");
        g.x.branch(1, 1);
        g.x.line(1);
        g.round("+f(1).");
        g.x.line(0);
        g.change("+f(9).".repeat(400));
        House.due("-4", g.x.merge(1), -4);
    }

    /** What both lines do to the rows 1,1 2,2 3,3 of e, and where they MEET; 0 for nowhere. */
    private static void meets(String inA, String inB, int met) {
        House h = new House();
        h.start("input n/1. input e/2 key 1.", "+e(1,1). +e(2,2). +e(3,3).");
        h.x.branch(2, 1);
        h.x.line(2);
        h.round(inB);
        h.x.line(0);
        h.round(inA);
        int told = h.x.merge(2);
        House.due("A " + inA + " B " + inB + ": they MEET", told == -3 ? 1 : 0, met == 0 ? 0 : 1);
        if (met != 0) {
            House.due("A " + inA + " B " + inB + ": where", House.of(() -> h.x.met(1)), met);
            House.due("nothing is done", h.x.count(4), 0);
        }
    }

    // "for the same first values A's and B's rows are both others than those at the FORK, and not the same ones"
    // "they MEET also where A took a row away and B has another one (B's rows and those of the FORK in one order by their first values)"
    private static void meetings() {
        String[] doings = {"", "-e(2,2).", "+e(2,7).", "+e(2,8).", "-e(2,2). +e(2,2)."};
        for (int a = 0; a < doings.length; a++) {
            for (int b = 0; b < doings.length; b++) {
                boolean others = a > 0 && a < 4 && b > 0 && b < 4 && a != b;
                meets(doings[a], doings[b], others ? 2 : 0);
            }
        }
        String[] news = {"", "+e(5,1).", "+e(5,2)."};
        for (int a = 0; a < news.length; a++) {
            for (int b = 0; b < news.length; b++) {
                meets(news[a], news[b], a > 0 && b > 0 && a != b ? 5 : 0);
            }
        }
        meets("+e(1,5).", "+e(2,5).", 0);
        meets("+e(1,5). +e(2,5). +e(3,5).", "+e(1,6). +e(2,6). +e(3,6).", 1);
        meets("+e(1,5). +e(2,5). +e(3,5).", "+e(1,5). +e(2,5). +e(3,6).", 3);
        meets("+e(1,5). +e(3,5).", "-e(1,1). +e(3,6).", 1);
        meets("+e(1,5). +e(3,5).", "+e(1,6). -e(3,3).", 1);
        meets("+e(2,5). +e(3,5).", "-e(3,3). +e(2,5).", 3);
        meets("+e(-5,1). +e(2,5).", "+e(-5,2). -e(2,2).", -5);
        meets("+e(9,1). +e(2,5).", "+e(9,2). -e(2,2).", 2);
        meets("+n(1).", "+n(1). -n(1). +n(2).", 0);
    }

    // "met ... 1 and on the first values (k of them)"
    private static void meetingKeys() {
        for (int k = 1; k <= 3; k++) {
            int key = k;
            House h = new House();
            h.start("input n/1. input e/4 key " + k + ".", "+e(1,2,3,4).");
            h.x.branch(1, 1);
            h.x.line(1);
            h.round("+e(1,2,3,5).");
            h.x.line(0);
            h.round("+e(1,2,3,6).");
            House.due("they MEET", h.x.merge(1), -3);
            House.due("the predicate", h.x.met(0), 1);
            for (int what = 1; what <= 3; what++) {
                int asked = what;
                House.due("met(" + what + ") of a KEY of " + k, House.of(() -> h.x.met(asked)), what <= key ? what : House.THROWS);
            }
            House.throwsNone("met(4)", () -> h.x.met(4));
            // Rows that differ in a value of the KEY don't MEET.
            h.x.back(1);
            String other = k == 1 ? "9,2,3,4" : k == 2 ? "1,9,3,4" : "1,2,9,4";
            h.round("+e(" + other + ").");
            House.due("another key", h.x.merge(1), 2);
        }
        House two = new House();
        two.start("input b/2 key 1. input a/2 key 1.", "");
        two.x.branch(1, 1);
        two.x.line(1);
        two.round("+a(1,1). +b(7,1).");
        two.x.line(0);
        two.round("+a(1,2). +b(7,2).");
        two.x.merge(1);
        House.due("the first by predicate", two.x.met(0) * 10 + two.x.met(1), 7);
    }

    // "NoSuchElementException: there is none such, or none did." "the latest merge() that answered -3"
    private static void metNumbers() {
        House h = ready();
        House.throwsNone("none did", () -> h.x.met(0));
        h.x.branch(1, 1);
        h.x.branch(2, 1);
        h.x.line(1);
        h.round("+e(1,8). +e(2,8).");
        h.x.line(2);
        h.round("+e(2,9).");
        h.x.line(0);
        h.x.merge(1);
        House.throwsNone("none did yet", () -> h.x.met(0));
        h.x.forget();
        h.round("+e(2,7).");
        House.due("merge(1)", h.x.merge(1), -3);
        House.due("met(0)", h.x.met(0), 0);
        House.due("met(1)", h.x.met(1), 2);
        for (int what : new int[] {-1, 2, 3, 4, 5, Integer.MIN_VALUE, Integer.MAX_VALUE}) {
            House.throwsNone("met(" + what + ")", () -> h.x.met(what));
        }
        h.round("+e(1,7). -e(2,7). +e(2,2).");
        House.due("merge(2)", h.x.merge(2), 2);
        House.due("merge(3)", h.x.merge(3), -1);
        House.due("it is still the latest -3", h.x.met(1), 2);
        House.due("merge(1)", h.x.merge(1), -3);
        House.due("another one now", h.x.met(1), 1);
        h.x.line(3);
        h.x.back(0);
        House.due("at another line", h.x.met(1), 1);
    }
}

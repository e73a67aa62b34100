/** Promises 20 (past), 21 (pastValue), 22 (back), 23 (branch), 24 (line), 25 (merge), 26 (met), and OLDEST of 10 (count). */
public final class PastTest {
    private static final int NONE = ChangeHouse.NONE;

    public static void main(String[] args) {
        past();
        pastOfEditions();
        back();
        backAndWorked();
        lines();
        branch();
        merge();
        mergeOrder();
        mergeEditions();
        mergeIntoAnEdition();
        mergeTooMuch();
        meet();
        metStays();
        forksAreLost();
        forksPassed();
        oldestByRows();
        oldestByCells();
        oldestByEditions();
        House.end();
    }

    private static House ready() {
        House h = new House();
        h.start("input e/2 key 1. input f/1. p(X) :- e(X,_), not f(X).", "+e(1,1). +e(2,2).");
        return h;
    }

    private static void past() {
        House h = ready();
        h.round("-e(1,1). +f(2).");
        h.round("+e(5,5). +e(3,a).");
        House.due("round 0 has no predicate", h.x.past(0, 0), NONE);
        House.due("round 1", h.pastRows(1, 0, 2) + " / " + h.pastRows(1, 1, 1) + " / " + h.pastRows(1, 2, 1), "1,1 2,2 /  / 1 2");
        House.due("round 2", h.pastRows(2, 0, 2) + " / " + h.pastRows(2, 1, 1) + " / " + h.pastRows(2, 2, 1), "2,2 / 2 / ");
        House.due("the present one", h.pastRows(3, 0, 2) + " / " + h.pastRows(3, 2, 1), "2,2 3,a 5,5 / 3 5");
        House.due("past(4, 0)", h.x.past(4, 0), NONE);
        House.due("past(-1, 0)", h.x.past(-1, 0), NONE);
        House.due("past(1, 3)", h.x.past(1, 3), NONE);
        House.due("past(1, -1)", h.x.past(1, -1), NONE);
        House.throwsNone("pastValue(1, 0, 2, 0)", () -> h.x.pastValue(1, 0, 2, 0));
        House.throwsNone("pastValue(1, 0, -1, 0)", () -> h.x.pastValue(1, 0, -1, 0));
        House.throwsNone("pastValue(1, 0, 0, 2)", () -> h.x.pastValue(1, 0, 0, 2));
        House.throwsNone("pastValue(1, 0, 0, -1)", () -> h.x.pastValue(1, 0, 0, -1));
        House.throwsNone("pastValue(1, 3, 0, 0)", () -> h.x.pastValue(1, 3, 0, 0));
        House.throwsNone("pastValue(0, 0, 0, 0)", () -> h.x.pastValue(0, 0, 0, 0));
        House.throwsNone("pastValue(4, 0, 0, 0)", () -> h.x.pastValue(4, 0, 0, 0));
        House.throwsNone("pastValue(-1, 0, 0, 0)", () -> h.x.pastValue(-1, 0, 0, 0));
    }

    private static void pastOfEditions() {
        House h = ready();
        h.program("input f/1. q(7,8,9). input e/2 key 1.");
        h.x.round();
        House.due("by the program of then", h.pastRows(1, 0, 2), "1,1 2,2");
        House.due("by the program of now", h.pastRows(2, 1, 3), "7,8,9");
        House.due("no such predicate then", h.x.past(0, 1), NONE);
        House.due("one of then", h.x.past(1, 2), 2);
        h.program("");
        h.x.round();
        House.due("no predicate now", h.x.past(3, 0), NONE);
        House.due("one of then still", h.x.pastValue(2, 1, 0, 2), 9);
    }

    private static void back() {
        House h = ready();
        h.round("+f(1).");
        h.cell("A1=count(e)");
        h.x.round();
        h.round("+e(7,7).");
        House.due("A1", h.cellAt("A1"), "3");
        h.change("+f(9). +f(8).");
        h.cell("B1=1");
        h.program("p(1).");
        House.due("back(5)", h.x.back(5), NONE);
        House.due("back(-1)", h.x.back(-1), NONE);
        h.change("");
        House.due("how many are gone", h.x.back(2), 2);
        House.due("ROUNDS", h.x.count(0), 2);
        House.due("pending", h.x.count(4), 0);
        House.due("rows", h.rows(0) + " / " + h.rows(1) + " / " + h.rows(2), "1,1 2,2 / 1 / 2");
        House.due("A1 has no text yet", h.cellAt("A1"), "EMPTY");
        House.due("later rounds are gone", h.x.past(3, 0), NONE);
        House.due("nothing is pending", h.x.round(), 0);
        House.due("no cell", h.cellAt("B1"), "EMPTY");
        House.due("no EDITION", h.x.count(7), 1);
        House.due("to the present one", h.x.back(3), 0);
        h.change("+f(4).");
        House.due("to the present one, pending goes", h.x.back(3), 0);
        House.due("pending", h.x.count(4), 0);
        House.due("on from there", h.round("+e(9,9)."), 2);
        House.due("to round 0", h.x.back(0), 4);
        House.due("no program", h.x.count(2), 0);
        House.due("EDITIONS", h.x.count(7), 0);
        House.due("rows of all", h.x.count(6), 0);
        House.due("no past but round 0", h.x.past(1, 0), NONE);
    }

    private static void backAndWorked() {
        House h = ready();
        h.round("+f(1).");
        h.round("+f(2).");
        House.due("p WORKED", h.x.predicate(2, 5), 3);
        h.x.back(1);
        House.due("counts stay", h.x.predicate(2, 5), 3);
        h.round("+f(2).");
        House.due("and go on", h.x.predicate(2, 5), 4);
        h.program("input e/2 key 1. q(X) :- e(X,_).");
        h.x.round();
        h.round("+e(3,3).");
        House.due("q WORKED", h.x.predicate(1, 5), 2);
        h.x.back(3);
        House.due("the same EDITION", h.x.predicate(1, 5), 2);
        h.x.back(2);
        House.due("another EDITION", h.x.predicate(2, 5), 0);
        h.round("+f(1).");
        House.due("from 0 on", h.x.predicate(2, 5), 1);
    }

    private static void lines() {
        House h = ready();
        House.due("line(4)", h.x.line(4), NONE);
        House.due("line(-1)", h.x.line(-1), NONE);
        House.due("still at 0", h.x.count(5), 0);
        h.change("+f(1).");
        House.due("line(3)", h.x.line(3), 0);
        House.due("at 3", h.x.count(5), 3);
        House.due("it is empty", h.x.count(2) + h.x.count(0) + h.x.count(4) + h.x.count(6), 0);
        h.start("q(1).", "");
        House.due("its own rounds", h.x.count(0), 1);
        House.due("line(3) again", h.x.line(3), 3);
        House.due("line(0)", h.x.line(0), 3);
        House.due("its PENDING is still there", h.x.count(4), 1);
        House.due("its program too", h.x.count(2), 3);
        House.due("round", h.x.round(), 2);
        h.feed("abc");
        h.x.line(1);
        House.due("the tape is one for all lines", h.x.count(9), 3);
    }

    private static void branch() {
        House h = ready();
        h.cell("A1=sum(e,2)");
        h.round("+e(3,3).");
        h.round("+f(3).");
        h.change("+f(9).");
        House.due("branch to itself", h.x.branch(0, 1), NONE);
        House.due("branch(4, 1)", h.x.branch(4, 1), NONE);
        House.due("branch(-1, 1)", h.x.branch(-1, 1), NONE);
        House.due("branch(1, 4)", h.x.branch(1, 4), NONE);
        House.due("branch(1, -1)", h.x.branch(1, -1), NONE);
        h.x.line(1);
        h.program("z(1).");
        h.x.round();
        h.change("");
        h.x.line(0);
        House.due("branch(1, 2)", h.x.branch(1, 2), 2);
        House.due("this line's PENDING stays", h.x.count(4), 1);
        House.due("still at 0", h.x.count(5), 0);
        h.x.line(1);
        House.due("ROUNDS", h.x.count(0), 2);
        House.due("OLDEST", h.x.count(1), 0);
        House.due("EDITIONS", h.x.count(7), 1);
        House.due("PENDING is empty", h.x.count(4), 0);
        House.due("rows", h.rows(0) + " / " + h.rows(1) + " / " + h.rows(2), "1,1 2,2 3,3 /  / 1 2 3");
        House.due("A1", h.cellAt("A1"), "6");
        House.due("its past", h.pastRows(1, 0, 2), "1,1 2,2");
        House.due("its past ends there", h.x.past(3, 0), NONE);
        House.due("WORKED counts are 0", h.x.predicate(2, 5) + h.worked("A1"), 0);
        h.round("+e(1,9).");
        House.due("A1 here", h.cellAt("A1"), "14");
        House.due("WORKED", h.x.predicate(2, 5) * 10 + h.worked("A1"), 11);
        h.x.line(0);
        House.due("A1 there", h.cellAt("A1"), "6");
        House.due("rows there", h.rows(0), "1,1 2,2 3,3");
        House.due("branch(2, 0)", h.x.branch(2, 0), 0);
        h.x.line(2);
        House.due("a line of round 0", h.x.count(2) + h.x.count(0), 0);
    }

    private static void merge() {
        House h = ready();
        House.due("merge of a line without a FORK", h.x.merge(1), -1);
        House.due("merge of itself", h.x.merge(0), -1);
        House.due("merge(4)", h.x.merge(4), -1);
        House.due("merge(-1)", h.x.merge(-1), -1);
        h.x.branch(1, 1);
        House.due("merge of nothing", h.x.merge(1), 0);
        h.x.line(1);
        House.due("the other way round there is no FORK", h.x.merge(0), -1);
        h.round("+e(1,5). -e(2,2). +f(7). +f(1).");
        h.change("+f(99).");
        h.x.line(0);
        h.round("+f(1). +f(3).");
        h.change("+f(4).");
        House.due("what came or went in B", h.x.merge(1), 5);
        House.due("behind what is pending", h.x.count(4), 6);
        // e lost 1,1 and 2,2 and got 1,5; f got 4 and 7 (1 was there already).
        House.due("round", h.x.round(), 3 + 2 + 1);
        House.due("rows", h.rows(0) + " / " + h.rows(1) + " / " + h.rows(2), "1,5 / 1 3 4 7 / ");
        House.due("again: the same CHANGES", h.x.merge(1), 5);
        House.due("they change nothing", h.x.round(), 0);
        h.x.line(2);
        House.due("no FORK of line 2", h.x.merge(1), -1);
    }

    private static void mergeOrder() {
        House h = new House();
        h.start("input a/2 key 1. input b/1.", "+a(1,1). +a(2,2). +b(1).");
        h.x.branch(1, 1);
        h.x.line(1);
        h.round("-a(1,1). +a(2,5). -b(1). +b(0). +a(7,7).");
        h.x.line(0);
        // A's own CHANGES go ahead: what B brings is done behind them.
        h.change("+a(2,8). +b(0). -b(0).");
        House.due("CHANGES", h.x.merge(1), 2 + 2 + 1 + 1);
        h.x.round();
        House.due("a", h.rows(0), "2,5 7,7");
        House.due("b", h.rows(1), "0");
    }

    private static void mergeEditions() {
        House h = ready();
        h.x.branch(1, 1);
        h.x.branch(2, 1);
        h.x.line(1);
        h.program("input e/2 key 1. input f/1. p(X) :- e(X,_), not f(X).");
        h.x.round();
        h.x.line(0);
        House.due("B took another EDITION, of the same text", h.x.merge(1), -2);
        h.x.line(1);
        h.x.back(1);
        h.round("+f(1).");
        h.x.line(0);
        House.due("B went BACK from it", h.x.merge(1), 1);
        h.x.forget();
        h.program("input f/1.");
        h.x.round();
        House.due("A took another EDITION", h.x.merge(1), -2);
        House.due("and so for the other line", h.x.merge(2), -2);
        h.x.back(1);
        House.due("A went BACK from it", h.x.merge(2), 0);
    }

    private static void mergeIntoAnEdition() {
        House h = new House();
        h.start("input a/1. input b/2. input c/1. input d/1.", "+a(1). +b(1,1). +c(1). +d(1).");
        h.x.branch(1, 1);
        h.x.line(1);
        h.round("+a(2). +b(2,2). +c(2). +d(2). -a(1).");
        h.x.line(0);
        h.program("input c/1. input b/1. input a/1. d(5).");
        House.due("those that are no INPUT's of it count", h.x.merge(1), 5);
        House.due("pending", h.x.count(4), 5);
        h.x.round();
        House.due("by NAME and n", h.rows(0) + " / " + h.rows(1) + " / " + h.rows(2) + " / " + h.rows(3), "1 2 /  / 2 / 5");
    }

    private static String rows(String sign, int from, int to) {
        StringBuilder text = new StringBuilder();
        for (int i = from; i < to; i++) {
            text.append(sign).append("f(").append(i).append(").");
        }
        return text.toString();
    }

    private static void mergeTooMuch() {
        House h = new House();
        h.start("input f/1. input g/2 key 1.", rows("+", 0, 90) + "+g(1,1).");
        h.x.branch(1, 1);
        h.x.line(1);
        h.change(rows("-", 0, 90));
        h.round(rows("+", 100, 190));
        h.x.line(0);
        h.change("+f(1).".repeat(220));
        House.due("400", h.x.merge(1), 180);
        House.due("pending", h.x.count(4), 400);
        House.due("more than 400", h.x.merge(1), -4);
        House.due("nothing comes", h.x.count(4), 400);
        h.x.forget();
        h.change("+f(1).".repeat(221));
        House.due("401", h.x.merge(1), -4);
        h.x.line(1);
        h.round("+g(1,2).");
        h.x.line(0);
        h.x.forget();
        h.round("+g(1,3).");
        h.change("+f(1).".repeat(300));
        House.due("where they MEET goes ahead", h.x.merge(1), -3);
    }

    /** A and B change rows of e, from 1,1 2,2 3,3 at the FORK; the answer, and the key they MEET at. */
    private static void meets(String what, String inA, String inB, int answer, String met) {
        House h = new House();
        h.start("input n/1. input e/2 key 1.", "+e(1,1). +e(2,2). +e(3,3).");
        h.x.branch(2, 1);
        h.x.line(2);
        h.round(inB);
        h.x.line(0);
        h.round(inA);
        House.due(what, h.x.merge(2), answer);
        if (answer == -3) {
            House.due(what + ": the predicate", h.x.met(0), 1);
            House.due(what + ": the key", House.told(h.x.met(1)), met);
            House.throwsNone(what + ": met(2)", () -> h.x.met(2));
            House.throwsNone(what + ": met(-1)", () -> h.x.met(-1));
            House.due(what + ": nothing is done", h.x.count(4), 0);
        } else {
            House.throwsNone(what + ": met(0)", () -> h.x.met(0));
        }
    }

    private static void meet() {
        meets("both change one row", "+e(2,7).", "+e(2,8).", -3, "2");
        meets("both change one row to the same", "+e(2,7).", "+e(2,7).", 2, "");
        meets("other rows", "+e(1,7).", "+e(2,8).", 2, "");
        meets("A takes away, B changes", "-e(2,2).", "+e(2,8).", -3, "2");
        meets("A changes, B takes away", "+e(2,8).", "-e(2,2).", -3, "2");
        meets("both take away", "-e(2,2).", "-e(2,2).", 1, "");
        meets("both tell a new one", "+e(5,1).", "+e(5,2).", -3, "5");
        meets("both tell the same new one", "+e(5,1).", "+e(5,1).", 1, "");
        meets("A alone tells a new one", "+e(5,1).", "+e(6,2).", 1, "");
        meets("the first of several", "+e(1,5). +e(3,5). +e(0,5).", "-e(3,3). +e(1,6). +e(0,6).", -3, "0");
        meets("the FORK's rows and B's in one order", "-e(3,3). +e(1,5).", "+e(3,6). -e(1,1).", -3, "1");
        meets("words", "+e(a,1).", "+e(ab,2). +e(a,3).", -3, "a");
        meets("without a key nobody meets", "+n(1).", "+n(2).", 1, "");
        House h = new House();
        h.start("input b/4 key 3. input a/2 key 1.", "");
        h.x.branch(1, 1);
        h.x.line(1);
        h.round("+a(1,1). +b(1,x,3,4).");
        h.x.line(0);
        h.round("+a(1,2). +b(1,x,3,5).");
        House.due("the first by predicate", h.x.merge(1), -3);
        House.due("met(0)", h.x.met(0), 0);
        House.due("met(1)", h.x.met(1), 1);
        House.due("met(2)", h.x.met(2), House.value("x"));
        House.due("met(3)", h.x.met(3), 3);
        House.throwsNone("met(4)", () -> h.x.met(4));
    }

    private static void metStays() {
        House h = ready();
        h.x.branch(1, 1);
        h.x.branch(2, 1);
        h.x.line(1);
        h.round("+e(1,8).");
        h.x.line(2);
        h.round("+e(2,8). +e(1,9).");
        h.x.line(0);
        h.round("+e(2,9).");
        House.due("merge(2)", h.x.merge(2), -3);
        House.due("met(1)", h.x.met(1), 2);
        House.due("merge(1)", h.x.merge(1), 2);
        House.due("merge(3)", h.x.merge(3), -1);
        House.due("it is the latest that answered -3", h.x.met(1), 2);
        h.x.back(0);
        h.x.line(3);
        House.due("at another line", h.x.met(1), 2);
    }

    private static void forksAreLost() {
        House h = ready();
        h.round("+f(1).");
        h.x.branch(1, 2);
        h.round("+f(2).");
        h.x.back(2);
        House.due("A went BACK to the FORK", h.x.merge(1), 0);
        h.x.back(1);
        House.due("A went BACK ahead of it", h.x.merge(1), -1);
        h.round("+f(1).");
        House.due("it stays lost", h.x.merge(1), -1);

        House b = ready();
        b.x.branch(1, 1);
        b.x.line(1);
        b.round("+f(1).");
        b.x.back(1);
        b.round("+f(3).");
        b.x.line(0);
        House.due("B went BACK to the FORK", b.x.merge(1), 1);
        b.x.line(1);
        b.x.back(0);
        b.x.line(0);
        House.due("B went BACK ahead of it", b.x.merge(1), -1);

        House c = ready();
        c.x.branch(1, 1);
        c.x.line(1);
        c.x.branch(2, 1);
        House.due("a branch of a branch", c.x.merge(2), 0);
        c.x.line(0);
        House.due("is none of the first line", c.x.merge(2), -1);
        House.due("which has its own", c.x.merge(1), 0);
        c.x.branch(1, 0);
        c.x.line(1);
        House.due("line 1 became a BRANCH: its own are lost", c.x.merge(2), -1);
        c.x.branch(0, 0);
        House.due("line 0 became a BRANCH", c.x.merge(0), 0);
        c.x.line(0);
        House.due("line 1's FORK is lost by it", c.x.merge(1), -1);
    }

    private static void forksPassed() {
        House h = new House();
        h.x.branch(1, 0);
        h.program("input f/1.");
        h.x.round();
        h.x.branch(2, 1);
        for (int i = 0; i < 6; i++) {
            h.program("input f/1.");
            h.x.round();
        }
        House.due("OLDEST", h.x.count(1), 0);
        House.due("a FORK at OLDEST", h.x.merge(1), -2);
        h.program("input f/1.");
        h.x.round();
        House.due("OLDEST passed it", h.x.count(1), 1);
        House.due("a FORK that is passed", h.x.merge(1), -1);
        House.due("one that isn't", h.x.merge(2), -2);
        h.x.back(1);
        House.due("OLDEST never goes down", h.x.count(1), 1);
        House.due("the FORK at OLDEST", h.x.merge(2), 0);
        House.due("round 0 is no more in THE PAST", h.x.back(0), NONE);
        h.x.branch(3, 1);
        h.x.line(3);
        House.due("OLDEST of a BRANCH", h.x.count(1), 1);
        House.due("round 0 is none of its PAST", h.x.past(0, 0), NONE);
        h.x.line(2);
        House.due("OLDEST of an earlier BRANCH", h.x.count(1), 0);
    }

    private static void oldestByRows() {
        House h = new House();
        // Each round: e's one row goes and another comes, and 50 rows of each of 14 predicates likewise.
        StringBuilder text = new StringBuilder("input e/1. n(0). n(Y) :- n(X), Y = X + 1, Y < 50.");
        for (int i = 0; i < 14; i++) {
            text.append("p").append(i).append("(X,Y) :- n(X), e(Y).");
        }
        int first = h.start(text.toString(), "+e(0).");
        House.due("the first round", first, 1 + 50 + 14 * 50);
        int all = first;
        int rounds = 1;
        for (; all + 1402 <= 8000; rounds++) {
            House.due("a round", h.round("-e(" + (rounds - 1) + "). +e(" + rounds + ")."), 2 + 14 * 100);
            all += 1402;
            House.due("OLDEST at " + all, h.x.count(1), 0);
        }
        House.due("so many fit", all, 751 + 5 * 1402);
        h.program(text.toString());
        h.x.round();
        House.due("nothing moved", h.x.count(1), 0);
        // Rounds behind OLDEST may hold 8000 rows, not one more.
        House.due("1402 more", h.round("-e(" + (rounds - 1) + "). +e(" + rounds + ")."), 1402);
        House.due("OLDEST: 8412 rows behind round 1 are too many", h.x.count(1), 2);
        House.due("past(1, 0)", h.x.past(1, 0), NONE);
        House.due("past(2, 0)", h.x.past(2, 0), 1);
        House.due("back(1)", h.x.back(1), NONE);
    }

    private static void oldestByCells() {
        House h = new House();
        for (int r = 1; r <= 10; r++) {
            for (int i = 0; i < 10; i++) {
                h.cell((char) ('A' + i % 6) + Integer.toString(1 + i / 6) + (i == 9 ? "=" : "=" + r));
            }
            h.x.round();
        }
        House.due("100 texts", h.x.count(1), 0);
        h.cell("A1=1");
        h.cell("A1=2");
        h.x.round();
        House.due("101 texts", h.x.count(1), 1);
        h.x.round();
        House.due("a round without texts", h.x.count(1), 1);
        h.cell("A1=");
        h.x.round();
        House.due("102 texts, an empty one too", h.x.count(1), 1);
        for (int i = 0; i < 9; i++) {
            h.cell("A1=1");
            h.x.round();
        }
        House.due("111 texts", h.x.count(1), 2);
        h.x.back(5);
        House.due("it never goes down", h.x.count(1), 2);
    }

    private static void oldestByEditions() {
        House h = new House();
        for (int i = 1; i <= 7; i++) {
            h.program("p(" + i + ").");
            h.x.round();
            House.due("OLDEST with EDITIONS " + i, h.x.count(1), 0);
        }
        h.x.round();
        House.due("a round without one", h.x.count(1), 0);
        h.program("p(8).");
        h.x.round();
        House.due("8 EDITIONS", h.x.count(1), 1);
        House.due("EDITIONS", h.x.count(7), 8);
        House.due("of OLDEST", h.x.pastValue(1, 0, 0, 0), 1);
        House.due("back to it", h.x.back(1), 8);
        House.due("EDITIONS there", h.x.count(7), 1);
        House.due("no further", h.x.back(0), NONE);
    }
}

/** Promises 4 (program), 6 (change), 8 (forget), 9 (round), 10 (count), 11 (predicate), 13 (edits), 14 (edit): rounds. */
public final class RoundsTest {
    public static void main(String[] args) {
        changesInOrder();
        keys();
        netChanges();
        worked();
        workedRings();
        editsOfOutputs();
        editsEnd();
        editions();
        editionsByNameAndWidth();
        editionsKeys();
        pendingEdition();
        forgetting();
        refusedRounds();
        refusedByInputs();
        limits();
        counts();
        pendingLimit();
        House.end();
    }

    private static void changesInOrder() {
        House h = new House();
        House.due("+ and - in their order", h.start("input e/1.", "+e(1). -e(1). +e(2). +e(2). -e(3). -e(4). +e(4)."), 2);
        House.due("rows", h.rows(0), "2 4");
        h.change("-e(2).");
        h.change("+e(5). +e(2).");
        House.due("pending behind what is there", h.x.count(4), 3);
        House.due("round", h.x.round(), 1);
        House.due("rows", h.rows(0), "2 4 5");
        House.due("pending is empty", h.x.count(4), 0);
        House.due("a round of nothing", h.x.round(), 0);
        House.due("is a round", h.x.count(0), 3);
    }

    private static void keys() {
        House h = new House();
        h.start("input e/3 key 2. input f/2 key 1.", "+e(1,1,1). +e(1,1,2). +e(1,2,1). +f(a,1). +f(b,1). +f(a,2).");
        House.due("another one with the same first values goes", h.rows(0), "1,1,2 1,2,1");
        House.due("of one value", h.rows(1), "a,2 b,1");
        House.due("the row itself stays", h.round("+e(1,1,2). -f(a,1). +f(b,0)."), 2);
        House.due("- takes the very row alone", h.rows(1), "a,2 b,0");
        House.due("come and gone", h.round("+e(1,1,9). -e(1,1,9)."), 1);
        House.due("nothing comes back", h.rows(0), "1,2,1");
    }

    private static void netChanges() {
        House h = new House();
        h.start("input e/1. output e. p(X) :- e(X).", "+e(1). +e(2).");
        House.due("what comes back didn't go", h.round("-e(1). +e(1)."), 0);
        House.due("not CHANGED", h.x.predicate(0, 7), 0);
        House.due("not WORKED", h.x.predicate(1, 5), 1);
        House.due("no EDITS", h.x.edits(), 0);
    }

    private static void worked() {
        House h = new House();
        h.start("input a/1. input b/1. p(X) :- a(X). q(X) :- p(X), not b(X). r(count()) :- q(X). s(X) :- b(X).", "+a(1). +b(2).");
        String[] names = {"a", "b", "p", "q", "r", "s"};
        int[][] due = {{0, 0, 1, 1, 1, 1}, {0, 0, 1, 2, 1, 2}, {0, 0, 2, 3, 2, 2}, {0, 0, 2, 3, 2, 2}, {0, 0, 3, 4, 2, 2}};
        String[] rounds = {"", "+b(3).", "+a(5).", "-b(7).", "+a(3)."};
        for (int i = 0; i < rounds.length; i++) {
            if (i > 0) {
                h.round(rounds[i]);
            }
            for (int p = 0; p < names.length; p++) {
                House.due(names[p] + " WORKED behind " + rounds[i], h.x.predicate(p, 5), due[i][p]);
            }
        }
        // q was worked in the last round, but not changed: r was not worked.
        House.due("p CHANGED", h.x.predicate(2, 7), 1);
        House.due("q CHANGED", h.x.predicate(3, 7), 0);
    }

    private static void workedRings() {
        House h = new House();
        h.start("input e/2. input s/1. even(X) :- s(X). even(Y) :- odd(X), e(X,Y). odd(Y) :- even(X), e(X,Y). other(X) :- s(X).", "+e(1,2).");
        House.due("even", h.x.predicate(2, 5), 1);
        h.round("+s(9).");
        House.due("even reads s", h.x.predicate(2, 5), 2);
        House.due("odd is of its RING", h.x.predicate(3, 5), 2);
        House.due("odd is not CHANGED", h.x.predicate(3, 7), 0);
        h.round("+e(7,8).");
        House.due("even reads e", h.x.predicate(2, 5), 3);
        House.due("other doesn't", h.x.predicate(4, 5), 2);
    }

    private static void editsOfOutputs() {
        House h = new House();
        House.due("edits() ahead of any round", h.x.edits(), 0);
        h.start("output q. input e/2. output e. p(X) :- e(X,_). q(Y,X) :- e(X,Y).", "+e(1,2). +e(1,3).");
        House.due("outputs by their numbers, rows in THE ORDER", h.edits(), "+0:2,1 +0:3,1 +1:1,2 +1:1,3");
        h.round("-e(1,2). +e(0,5). +e(1,4).");
        House.due("came and went", h.edits(), "-0:2,1 +0:4,1 +0:5,0 +1:0,5 -1:1,2 +1:1,4");
        House.due("edit(0, 0)", h.x.edit(0, 0), 0);
        House.due("edit(0, 1)", h.x.edit(0, 1), 0);
        House.due("edit(5, 0)", h.x.edit(5, 0), 1);
        House.due("edit(5, 1)", h.x.edit(5, 1), 1);
        House.due("edit(5, 3)", h.x.edit(5, 3), 4);
        House.throwsNone("edit(5, 4)", () -> h.x.edit(5, 4));
        House.throwsNone("edit(5, -1)", () -> h.x.edit(5, -1));
        House.throwsNone("edit(6, 0)", () -> h.x.edit(6, 0));
        House.throwsNone("edit(-1, 0)", () -> h.x.edit(-1, 0));
        h.change("+e(9,9).");
        House.due("they stay while more is pending", h.x.edits(), 6);
        h.x.round();
        House.due("of the latest round", h.edits(), "+0:9,9 +1:9,9");
        h.x.round();
        House.due("of a round of nothing", h.x.edits(), 0);
    }

    private static void editsEnd() {
        House h = new House();
        h.start("input e/1. output e.", "+e(1).");
        House.due("edits", h.x.edits(), 1);
        House.due("back() to a round that is none", h.x.back(7), ChangeHouse.NONE);
        House.due("line() to none", h.x.line(4), ChangeHouse.NONE);
        House.due("they stay", h.x.edits(), 1);
        House.due("CHANGED stays", h.x.predicate(0, 7), 1);
        h.x.branch(1, 1);
        House.due("and behind branch()", h.x.edits(), 1);
        h.x.back(1);
        House.due("behind back()", h.x.edits(), 0);
        House.due("CHANGED behind back()", h.x.predicate(0, 7), 0);
        h.round("+e(2).");
        House.due("behind the next round", h.x.edits(), 1);
        h.x.line(0);
        House.due("behind line(), to the same one too", h.x.edits(), 0);
        House.throwsNone("no EDIT", () -> h.x.edit(0, 0));
        h.round("+e(3).");
        h.x.line(1);
        House.due("at a line that became a BRANCH", h.x.edits(), 0);
        House.due("CHANGED there", h.x.predicate(0, 7), 0);
        h.x.line(0);
        House.due("back at the first one", h.x.edits(), 0);
    }

    private static void editions() {
        House h = new House();
        h.start("input e/2. input g/1. output p. p(X) :- e(X,_).", "+e(1,2). +e(3,4). +g(7).");
        House.due("EDITIONS", h.x.count(7), 1);
        // e keeps its rows; g is gone; p is made anew and is the same but for a row; q comes.
        h.program("output q. q(Y) :- e(_,Y). p(X) :- e(X,_), X > 1. input e/2. output p.");
        House.due("the program stays until the round", h.x.count(3), 1);
        House.due("rows that came or went", h.x.round(), 1 + 2 + 1);
        House.due("EDITIONS", h.x.count(7), 2);
        House.due("predicates", h.x.count(2), 3);
        House.due("numbered anew", h.rows(0) + " / " + h.rows(1) + " / " + h.rows(2), "2 4 / 1,2 3,4 / 3");
        House.due("EDITS by the numbers of now", h.edits(), "+0:2 +0:4 -2:1");
        House.due("e is not CHANGED", h.x.predicate(1, 7), 0);
        House.due("p is", h.x.predicate(2, 7), 1);
        House.due("q is WORKED", h.x.predicate(0, 5), 1);
        House.due("p is WORKED, counted with this EDITION", h.x.predicate(2, 5), 1);
        House.due("an INPUT is not WORKED", h.x.predicate(1, 5), 0);
        h.round("+e(5,5).");
        House.due("p is WORKED again", h.x.predicate(2, 5), 2);
        // The same text is a new EDITION all the same.
        h.program("output q. q(Y) :- e(_,Y). p(X) :- e(X,_), X > 1. input e/2. output p.");
        House.due("nothing came or went", h.x.round(), 0);
        House.due("EDITIONS", h.x.count(7), 3);
        House.due("WORKED counts begin again", h.x.predicate(2, 5), 1);
        h.program("");
        House.due("a program without statements: all rows went", h.x.round(), 3 + 3 + 2);
        House.due("no predicates", h.x.count(2), 0);
        House.due("no EDITS of what is no output of now", h.x.edits(), 0);
    }

    private static void editionsByNameAndWidth() {
        House h = new House();
        h.start("input e/2. input f/1. p(X) :- e(X,_).", "+e(1,2). +e(3,4). +f(1). +f(2).");
        // f becomes a rule's, with the same rows; p becomes an INPUT, its rows go; e has another n.
        h.program("input e/1. f(1). f(2). input p/1. output p.");
        House.due("by NAME and n", h.x.round(), 2 + 0 + 2);
        House.due("f is not CHANGED", h.x.predicate(1, 7), 0);
        House.due("p went", h.edits(), "-2:1 -2:3");
        House.due("e has no rows", h.rows(0), "");
        House.due("RANK of f is that of a rule now", h.x.rank(1, 0), 1);
        h.program("input f/1. input e/1.");
        House.due("a rule's rows are no INPUT's", h.x.round(), 2);
        House.due("f has no rows", h.rows(0), "");
    }

    private static void editionsKeys() {
        House h = new House();
        h.start("input e/3 key 1. input f/2.", "+e(1,1,1). +f(1,1).");
        h.program("input f/2 key 1. input e/3 key 1.");
        House.due("another k: its rows go", h.x.round(), 1);
        House.due("f", h.rows(0), "");
        House.due("e", h.rows(1), "1,1,1");
        h.program("input e/3 key 2.");
        h.change("+e(1,1,1).");
        House.due("gone, and told anew", h.x.round(), 0);
        h.program("input e/3.");
        House.due("no key any more", h.x.round(), 1);
    }

    private static void pendingEdition() {
        House h = new House();
        h.start("input e/1.", "+e(1).");
        h.change("+e(2).");
        h.program("input e/1. input f/1.");
        House.due("program() takes PENDING CHANGES away", h.x.count(4), 0);
        h.change("+f(1). +e(3).");
        h.program("bad(");
        h.program("bad(X).");
        House.due("wrong and faulty ones do nothing", h.x.count(4), 2);
        House.due("round", h.x.round(), 2);
        House.due("rows", h.rows(0) + " / " + h.rows(1), "1 3 / 1");
        h.program("p(1).");
        h.program("input e/1. q(2).");
        House.due("in place of the one that was pending", h.x.round(), 1 + 1);
        House.due("RULES", h.x.count(3), 1);
        House.due("q", h.rows(1), "2");
    }

    private static void forgetting() {
        House h = new House();
        House.due("forget() of nothing", h.x.forget(), 0);
        h.start("input e/1.", "+e(1).");
        h.change("+e(2). +e(3). -e(1).");
        h.cell("A1=5");
        House.due("how many CHANGES", h.x.forget(), 3);
        House.due("pending", h.x.count(4), 0);
        House.due("round", h.x.round(), 0);
        House.due("the cell is forgotten", h.cellAt("A1"), "EMPTY");
        h.program("p(1).");
        House.due("CHANGES alone are counted", h.x.forget(), 0);
        House.due("the EDITION is forgotten", h.x.round(), 0);
        House.due("EDITIONS", h.x.count(7), 1);
        h.program("p(1).");
        h.x.round();
        House.due("a right one comes", h.x.count(7), 2);
    }

    private static void refusedRounds() {
        House h = new House();
        h.start("input e/1. output p. p(X) :- e(X).", "+e(1). +e(2).");
        h.program("input e/1. output p. p(X) :- e(X). p(Y) :- p(X), Y = X + 1.");
        h.change("+e(5).");
        h.cell("A1=7");
        House.due("it grows without end", h.x.round(), -1);
        House.due("REFUSED", h.x.count(8), 1);
        House.due("ROUNDS", h.x.count(0), 1);
        House.due("EDITIONS", h.x.count(7), 1);
        House.due("RULES", h.x.count(3), 1);
        House.due("pending", h.x.count(4), 0);
        House.due("rows", h.rows(1), "1 2");
        House.due("WORKED stays", h.x.predicate(1, 5), 1);
        House.due("EDITS stay", h.edits(), "+1:1 +1:2");
        House.due("CHANGED stays", h.x.predicate(1, 7), 1);
        House.due("nothing was left pending", h.x.round(), 0);
        House.due("the cell too", h.cellAt("A1"), "EMPTY");
        House.due("EDITIONS", h.x.count(7), 1);
        House.due("a change by the program", h.change("+e(9)."), 1);
        House.due("round", h.x.round(), 2);
        h.x.line(2);
        h.program("p(1). p(X+1) :- p(X).");
        House.due("refused at another line", h.x.round(), -1);
        h.x.line(0);
        House.due("REFUSED of all lines", h.x.count(8), 2);
    }

    private static void refusedByInputs() {
        House h = new House();
        h.start("input e/1. input f/2 key 1.", rowsOf("e", 0, 100));
        House.due("100 rows", h.x.predicate(0, 6), 100);
        House.due("101", h.round("+e(100)."), -1);
        House.due("100 behind the round, more on the way", h.round("+e(100). +e(101). -e(0). -e(1)."), 4);
        House.due("the same row again", h.round("+e(50)."), 0);
        h.change(rowsOf("e", 102, 200));
        House.due("198 on the way", h.round(rowsOf("e", 2, 100).replace("+", "-")), 98 + 98);
        House.due("rows", h.x.predicate(0, 6), 100);
        h.change("+f(1,0).".repeat(150));
        House.due("a key holds them down", h.x.round(), 1);
    }

    private static String rowsOf(String name, int from, int to) {
        StringBuilder text = new StringBuilder();
        for (int i = from; i < to; i++) {
            text.append("+").append(name).append("(").append(i).append(").");
        }
        return text.toString();
    }

    private static void limits() {
        House h = new House();
        String grow = "input e/1. g(X) :- e(X). g(Y) :- g(X), Y = X + 1, Y < ";
        House.due("100 rows by a ring", h.start(grow + "100.", "+e(0)."), 1 + 100);
        House.due("101 rows", h.start(grow + "101.", ""), -1);
        House.due("one more by the INPUT", h.round("+e(-1)."), -1);
        House.due("in place of another one", h.round("+e(5)."), 1);
        House.due("products of 10 by 10", h.start("input e/1. d(X) :- e(X). d(Y) :- d(X), Y = X + 1, Y < 10. p(X,Y) :- d(X), d(Y).", ""), 100 + 10 + 100);
        House.due("of 10 by 11", h.start("input e/1. d(X) :- e(X). d(Y) :- d(X), Y = X + 1, Y < 11. p(X,Y) :- d(X), d(Y), X < 10.", ""), -1);
        House.due("many WAYS, few rows", h.start(grow + "100. p(1) :- g(X), g(Y), g(Z), X + Y + Z = 297. p(count()) :- g(X), g(Y), g(Z).", "") >= 0 ? 1 : 0, 1);
        House.due("a million WAYS", h.rows(2), "1 1000000");
    }

    private static void counts() {
        House h = new House();
        h.start("input e/1. input f/1. p(X) :- e(X). p(X) :- f(X).", "+e(1). +e(2). +f(2).");
        h.x.line(3);
        h.x.line(0);
        h.x.round();
        h.round("+e(1).");
        h.feed("abcde");
        long[] due = {3, 0, 3, 2, 0, 0, 5, 1, 0, 5};
        for (int what = 0; what < due.length; what++) {
            House.due("count(" + what + ")", h.x.count(what), due[what]);
        }
        House.due("count(10)", h.x.count(10), ChangeHouse.NONE);
        House.due("count(MIN)", h.x.count(Integer.MIN_VALUE), ChangeHouse.NONE);
    }

    private static void pendingLimit() {
        House h = new House();
        h.program("input e/1. input long_name/1.");
        House.due("300", h.change("+e(1).".repeat(300)), 300);
        House.due("100", h.change("-e(1).".repeat(100)), 100);
        House.due("400", h.x.count(4), 400);
        House.due("none more", h.change(" "), 0);
        House.due("one more", h.change("+e(1)."), -6000);
        House.due("it has no FAULT", h.x.place(), ChangeHouse.NONE);
        House.due("wrong goes ahead", h.change("+e(1"), -5);
        House.due("a FAULT goes ahead", h.change("+f(1)."), -5002);
        House.due("nothing came", h.x.count(4), 400);
        House.due("round", h.x.round(), 0);
        House.due("401 at once", h.change("+e(1).".repeat(401)), -6000);
        House.due("nothing came of it", h.x.count(4), 0);
    }
}

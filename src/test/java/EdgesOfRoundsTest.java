/** Each sentence of "III. ROUNDS" and of VI's ROUNDS that names an edge, but for those on branches and merges. */
public final class EdgesOfRoundsTest extends Marks {
    public static void main(String[] args) {
        fiveHundredAndTwelveCalls();
        aNewObject();
        aTapeOf3000();
        endOfTheTape();
        whatEmptiesTheTape();
        fourHundredPending();
        pendingIsInOrder();
        programTakesPendingChangesAway();
        theEditionThatChangesGoBy();
        forgetsAll();
        keys();
        inputsKeepTheirRows();
        otherPredicatesAreMadeAnew();
        rowsOfANewEdition();
        refusedChangesNothing();
        refusedBehindBackAndLine();
        refusedOfAllLines();
        changed();
        worked();
        workedWithANewEdition();
        editsOfOutputs();
        editsBehindBackAndLine();
        editNumbers();
        countNumbers();
        predicateNumbers();
        valueNumbers();
        placeOfTheLatest();
        answersNumbers();
        fiveHundredAnswers();
        House.end();
    }

    // "An object is used for at most 512 calls after it has been made"
    private static void fiveHundredAndTwelveCalls() {
        ChangeHouse x = new ChangeHouse();
        for (int i = 1; i <= 510; i++) {
            House.due("round " + i, x.round(), 0);
        }
        House.due("back(0) is call 511", x.back(0), 510);
        House.due("count(0) is call 512", x.count(0), 0);
        ChangeHouse y = new ChangeHouse();
        for (int i = 1; i <= 511; i++) {
            y.round();
        }
        House.due("511 ROUNDS", y.count(0), 511);
        ChangeHouse z = new ChangeHouse();
        for (int i = 1; i <= 509; i++) {
            z.round();
        }
        House.due("a BRANCH of 509 rounds", z.branch(3, 509), 509);
        z.line(3);
        House.due("its ROUNDS", z.count(0), 509);
    }

    // "Four lines, at line 0; the others are empty. An empty tape." "ROUNDS, 0 at first (nothing is told; the program has no statements)"
    private static void aNewObject() {
        ChangeHouse x = new ChangeHouse();
        for (int k = 0; k <= 3; k++) {
            House.due("at line", x.count(5), k);
            for (int what = 0; what <= 9; what++) {
                House.due("line " + k + ", count(" + what + ")", x.count(what), what == 5 ? k : 0);
            }
            House.due("edits()", x.edits(), 0);
            House.due("place()", x.place(), NONE);
            House.due("round 0 is in THE PAST, without a predicate", x.past(0, 0), NONE);
            House.due("to round 0", x.back(0), 0);
            House.due("forget()", x.forget(), 0);
            for (int c = 0; c < 6; c++) {
                for (int r = 0; r < 12; r++) {
                    House.due("a cell", x.sheet(c, r, 0) + x.sheet(c, r, 1) + x.sheet(c, r, 2), 0);
                }
            }
            House.throwsNone("no predicate", () -> x.predicate(0, 0));
            House.throwsNone("no EDIT", () -> x.edit(0, 0));
            House.throwsNone("no ANSWER", () -> x.answer(0, 0));
            House.throwsNone("no value", () -> x.value(0, 0, 0));
            House.throwsNone("no RANK", () -> x.rank(0, 0));
            House.throwsNone("no REASON", () -> x.reason(0, 0, 0));
            House.throwsNone("no past value", () -> x.pastValue(0, 0, 0, 0));
            House.throwsNone("nobody met", () -> x.met(0));
            House.due("no FORK", x.merge((k + 1) % 4), -1);
            x.line((k + 1) % 4);
        }
        House.due("back at line 0", x.count(5), 0);
    }

    // "false, and nothing happens, if it would have more than 3000"
    private static void aTapeOf3000() {
        ChangeHouse x = new ChangeHouse();
        for (int i = 1; i <= 149; i++) {
            x.feed(0x20202020, 0x20202020, 0x20202020, 0x20202020, 0x20202020);
        }
        House.due("2980", x.count(9), 2980);
        x.end(2979);
        House.due("feed at 2979", x.feed(0x21202020, 0x20202020, 0x20202020, 0x20202020, 0x20202020) ? 1 : 0, 1);
        House.due("2999", x.count(9), 2999);
        House.due("feed at 2999", x.feed(0x21212121, 0, 0, 0, 0) ? 1 : 0, 0);
        House.due("nothing happened", x.count(9), 2999);
        x.end(2980);
        House.due("feed at 2980", x.feed(0x20202020, 0x20202020, 0x20202020, 0x20202020, 0x20202023) ? 1 : 0, 1);
        House.due("3000", x.count(9), 3000);
        House.due("feed at 3000", x.feed(0x21212121, 0, 0, 0, 0) ? 1 : 0, 0);
        House.due("nothing happened", x.count(9), 3000);
        House.due("the bytes are as they were: a ! is at 2979", x.program(), -1 - 2979);
        ChangeHouse y = new ChangeHouse();
        for (int i = 1; i <= 150; i++) {
            y.feed(0x20202020, 0x20202020, 0x20202020, 0x20202020, 0x20202020);
        }
        y.end(2981);
        House.due("feed at 2981", y.feed(0x21212121, 0, 0, 0, 0) ? 1 : 0, 0);
        House.due("nothing happened", y.count(9), 2981);
        House.due("not a byte of it", y.program(), 0);
        // "four in each number, the highest first"
        ChangeHouse z = new ChangeHouse();
        z.feed(0x612c3132, 0x80ff7f00, 0x70717273, 0x74757677, 0x78797a7b);
        z.end(2);
        House.due("a , is the second byte", z.program(), -2);
        z.feed(0x70286129, 0x2e702862, 0x292e7028, 0x63292e70, 0x2864292e);
        House.due("p(a).p(b).p(c).p(d).", z.program(), 4);
    }

    // "The tape has its first n bytes alone; false, and nothing happens, if it has not so many, or n is below 0."
    private static void endOfTheTape() {
        House h = new House();
        House.due("end(0) of nothing", h.x.end(0) ? 1 : 0, 1);
        House.due("end(1) of nothing", h.x.end(1) ? 1 : 0, 0);
        House.due("end(-1) of nothing", h.x.end(-1) ? 1 : 0, 0);
        h.feed("p(1).q");
        House.due("end(7) of 6", h.x.end(7) ? 1 : 0, 0);
        House.due("end(MAX)", h.x.end(Integer.MAX_VALUE) ? 1 : 0, 0);
        House.due("end(-1)", h.x.end(-1) ? 1 : 0, 0);
        House.due("end(MIN)", h.x.end(Integer.MIN_VALUE) ? 1 : 0, 0);
        House.due("nothing happened", h.x.count(9), 6);
        House.due("end(6)", h.x.end(6) ? 1 : 0, 1);
        House.due("6 bytes", h.x.count(9), 6);
        House.due("end(5)", h.x.end(5) ? 1 : 0, 1);
        House.due("5 bytes", h.x.count(9), 5);
        House.due("end(6) now", h.x.end(6) ? 1 : 0, 0);
        House.due("its first bytes", h.x.program(), 1);
        h.feed("p(1).");
        House.due("end(0)", h.x.end(0) ? 1 : 0, 1);
        House.due("an empty tape", h.x.count(9), 0);
    }

    // "the call that reads it empties it, whatever it answers"
    private static void whatEmptiesTheTape() {
        House h = new House();
        h.start("input e/1.", "");
        String[][] texts = {{"p(1).", "p(", "p(X)."}, {"+e(1).", "+", "+n(1)."}, {"A1=1", "A1=", "A"}, {"e(X).", "e(", "n(X)."}};
        for (int kind = 0; kind < 4; kind++) {
            for (String text : texts[kind]) {
                h.feed(text);
                int told = kind == 0 ? h.x.program() : kind == 1 ? h.x.change() : kind == 2 ? h.x.cell() : h.x.query();
                House.due("the tape behind " + text + ", " + told, h.x.count(9), 0);
                h.x.forget();
            }
        }
        h.feed("+e(1).".repeat(401));
        House.due("-6000", h.x.change(), -6000);
        House.due("the tape behind it", h.x.count(9), 0);
        h.start("p(0). p(X+1):-p(X),X<25.", "");
        h.feed("p(X),p(Y).");
        House.due("-6000", h.x.query(), -6000);
        House.due("the tape behind it", h.x.count(9), 0);
        // The other calls leave it.
        h.feed("p(7).");
        h.x.round();
        h.x.forget();
        h.x.place();
        h.x.edits();
        h.x.branch(1, 1);
        h.x.line(1);
        h.x.merge(0);
        h.x.back(0);
        h.x.line(0);
        House.due("it is still there", h.x.count(9), 5);
        House.due("and is read", h.x.program(), 1);
    }

    // "More than 400 PENDING: -6000; nothing comes then." "change() of -6000 has no FAULT."
    private static void fourHundredPending() {
        House h = new House();
        h.program("input e/1.");
        House.due("399", h.change("+e(1).".repeat(399)), 399);
        House.due("two more", h.change("+e(1).+e(2)."), -6000);
        House.due("nothing comes", h.x.count(4), 399);
        House.due("one more", h.change("+e(3)."), 1);
        House.due("400", h.x.count(4), 400);
        House.due("none more", h.change(""), 0);
        House.due("one more", h.change("+e(4)."), -6000);
        House.due("it has no FAULT", h.x.place(), NONE);
        House.due("400 still", h.x.count(4), 400);
        House.due("the round", h.x.round(), 2);
        House.due("rows", h.rows(0), "1 3");
        House.due("400 at once", h.change("-e(1).".repeat(400)), 400);
        House.due("forget()", h.x.forget(), 400);
        h.change("+n(1).");
        House.due("place of a FAULT", h.x.place(), 1);
        House.due("401 at once", h.change("-e(1).".repeat(401)), -6000);
        House.due("it has no FAULT", h.x.place(), NONE);
        House.due("nothing comes", h.x.count(4), 0);
        // Each line has its own 400.
        h.change("-e(1).".repeat(400));
        h.x.line(1);
        h.program("input e/1.");
        House.due("at another line", h.change("+e(1).".repeat(400)), 400);
    }

    // "A CHANGE TEXT comes to PENDING, behind what is there" "CHANGES are done in their order"
    private static void pendingIsInOrder() {
        House h = new House();
        h.start("input e/1. input f/2 key 1.", "+e(1).");
        h.change("-e(1).");
        h.change("+e(1).");
        h.change("+e(2).");
        h.change("-e(2).");
        h.change("+f(1,1).");
        h.change("+f(1,2). -f(1,1).");
        House.due("rows that came", h.x.round(), 1);
        House.due("e", h.rows(0), "1");
        House.due("f", h.rows(1), "1,2");
    }

    // "(in place of one that was PENDING; CHANGES that are PENDING go)"
    private static void programTakesPendingChangesAway() {
        House h = new House();
        h.start("input e/1.", "");
        h.change("+e(1).");
        h.cell("A1=5");
        h.program("p(");
        h.program("p(X).");
        House.due("a WRONG or FAULTY one takes none", h.x.count(4), 1);
        h.program("input e/1. p(1).");
        House.due("a right one does", h.x.count(4), 0);
        h.change("+e(2).");
        h.program("input e/1. q(1). q(2).");
        House.due("another one does", h.x.count(4), 0);
        House.due("the round", h.x.round(), 2);
        House.due("one EDITION", h.x.count(7), 2);
        House.due("the CELL is still told", h.cellAt("A1"), "5");
    }

    // "by the next EDITION, if there is one, or else the program"
    private static void theEditionThatChangesGoBy() {
        House h = new House();
        h.start("input e/1.", "");
        rightChange(h, "+e(1).", 1);
        h.program("input e/2. input g/1.");
        faultyChange(h, 3, "+^e(1).");
        rightChange(h, "+e(1,2). +g(1).", 2);
        // query() goes by the program.
        rightQuery(h, "e(X).", 0);
        faultyQuery(h, 2, "^g(X).");
        h.x.forget();
        rightChange(h, "+e(1).", 1);
        h.x.forget();
        h.program("input e/2.");
        h.x.line(1);
        faultyChange(h, 2, "+^e(1,1).");
        h.x.line(0);
        rightChange(h, "+e(1,1).", 1);
        h.x.back(1);
        faultyChange(h, 3, "+^e(1,1).");
    }

    // "PENDING is empty: how many CHANGES it had." "forget(): CELLS and EDITION go, too."
    private static void forgetsAll() {
        House h = new House();
        House.due("of nothing", h.x.forget(), 0);
        h.program("input e/1.");
        h.cell("A1=1");
        House.due("no CHANGES", h.x.forget(), 0);
        h.x.round();
        House.due("no EDITION", h.x.count(7), 0);
        House.due("no CELL", h.cellAt("A1"), "EMPTY");
        h.start("input e/1.", "");
        h.change("+e(1).+e(1).-e(3).");
        House.due("three CHANGES", h.x.forget(), 3);
        House.due("and none", h.x.forget(), 0);
        House.due("the round", h.x.round(), 0);
    }

    // "with a KEY, no two of them have the same first k values" "(with a KEY: another one with the same first values goes)"
    private static void keys() {
        for (int n = 2; n <= 4; n++) {
            for (int k = 1; k < n; k++) {
                House h = new House();
                h.program("input e/" + n + " key " + k + ".");
                // The rows differ in one column each from the first one.
                String[] rows = new String[n + 1];
                for (int r = 0; r <= n; r++) {
                    StringBuilder row = new StringBuilder();
                    for (int c = 0; c < n; c++) {
                        row.append(c == 0 ? "" : ",").append(r > 0 && c == r - 1 ? 9 : 5);
                    }
                    rows[r] = row.toString();
                }
                for (int r = 0; r <= n; r++) {
                    h.change("+e(" + rows[r] + ").");
                }
                h.x.round();
                // Those that differ in a key's column stay; of the others the last one.
                House.due("n " + n + ", k " + k, h.x.predicate(0, 6), k + 1);
                House.due("the last one of its key", h.query("e(" + rows[n] + ")."), 1);
                House.due("the first one went", h.query("e(" + rows[0] + ")."), 0);
            }
        }
        House h = new House();
        h.start("input e/2 key 1.", "+e(1,1). +e(a,1).");
        House.due("the row itself again", h.round("+e(1,1)."), 0);
        House.due("- of another one with its key", h.round("-e(1,2)."), 0);
        House.due("- of the row", h.round("-e(1,1)."), 1);
        House.due("in its place", h.round("+e(a,2)."), 2);
        House.due("what went by a key doesn't come back", h.round("+e(a,3). -e(a,3)."), 1);
        House.due("no rows", h.rows(0), "");
    }

    // "INPUTS of the same NAME, n and k keep their rows, all others are gone"
    private static void inputsKeepTheirRows() {
        String[][] cases = {{"input e/3 key 1.", "1"}, {"input e/3 key 2.", "0"}, {"input e/3.", "0"}, {"input e/2 key 1.", "0"}, {"input e/4 key 1.", "0"},
            {"input f/3 key 1.", "0"}, {"e(1,2,3).", "1"}, {"e(9,9,9).", "1"}, {"input x/1. output e. input e/3 key 1.", "1"}};
        for (String[] one : cases) {
            House h = new House();
            h.start("input e/3 key 1.", "+e(1,2,3).");
            h.program(one[0]);
            h.x.round();
            House.due("rows of all with " + one[0], h.x.count(6), Integer.parseInt(one[1]));
        }
        // A predicate that was no INPUT gives no rows to one.
        House h = new House();
        h.start("e(1).", "");
        House.due("its rows go", h.start("input e/1.", ""), 1);
        House.due("no rows", h.rows(0), "");
        House.due("without a KEY as well", h.start("input e/1.", "+e(4)."), 1);
        House.due("it keeps them", h.start("output e. input e/1.", ""), 0);
        // Rows that went with an EDITION don't come back with the next one.
        House.due("gone", h.start("", ""), 1);
        House.due("gone for good", h.start("input e/1.", ""), 0);
    }

    // "other predicates are made anew"
    private static void otherPredicatesAreMadeAnew() {
        House h = new House();
        h.start("input e/1. p(X):-e(X).", "+e(1). +e(2).");
        House.due("others by their rules", h.start("input e/1. p(X+1):-e(X).", ""), 2);
        House.due("rows", h.rows(1), "2 3");
        House.due("RANK and REASON too", h.x.rank(1, 0) * 10 + h.x.reason(1, 0, 1), 10);
    }

    // "What came or went with a new EDITION goes by NAME and n."
    private static void rowsOfANewEdition() {
        House h = new House();
        h.start("p(1). p(2). q(1,1). r(1).", "");
        House.due("p keeps one, q has another n, r is gone, s comes", h.start("output s. s(1). output p. p(2). p(3). output q. q(1).", ""), 1 + 2 + 2 + 1);
        House.due("CHANGED s", h.x.predicate(0, 7), 1);
        House.due("CHANGED p", h.x.predicate(1, 7), 1);
        House.due("CHANGED q", h.x.predicate(2, 7), 1);
        House.due("EDITS: of q the rows of this n alone", h.edits(), "+0:1 -1:1 +1:3 +2:1");
        House.due("the same rows under other numbers", h.start("output q. output p. output s. q(1). p(2). p(3). s(1).", ""), 0);
        House.due("no EDITS", h.x.edits(), 0);
        House.due("none is CHANGED", h.x.predicate(0, 7) + h.x.predicate(1, 7) + h.x.predicate(2, 7), 0);
        House.due("a new one without rows", h.start("q(1). p(2). p(3). s(1). input t/1.", ""), 0);
        House.due("is not CHANGED", h.x.predicate(3, 7), 0);
    }

    // "REFUSED: nothing is changed, PENDING is empty all the same." "WORKED counts, EDITIONS, edits() stay as they were"
    private static void refusedChangesNothing() {
        House h = new House();
        String grow = "input e/1. output p. p(X):-e(X). p(Y):-p(X),Y=X+1,Y<=";
        h.start(grow + "100.", "+e(1).");
        h.cell("A1=count(p)");
        h.x.round();
        h.round("+e(50).");
        h.program(grow + "101.");
        h.change("+e(2).");
        h.cell("A1=7");
        h.cell("B1=7");
        House.due("REFUSED", h.x.round(), -1);
        House.due("ROUNDS", h.x.count(0), 3);
        House.due("OLDEST", h.x.count(1), 0);
        House.due("PENDING", h.x.count(4), 0);
        House.due("EDITIONS", h.x.count(7), 1);
        House.due("REFUSED ones", h.x.count(8), 1);
        House.due("rows of e", h.rows(0), "1 50");
        House.due("WORKED", h.x.predicate(1, 5), 2);
        House.due("CHANGED", h.x.predicate(0, 7) * 10 + h.x.predicate(1, 7), 10);
        House.due("A1", h.cellAt("A1") + h.worked("A1"), "1001");
        House.due("no later round is in THE PAST", h.x.past(4, 0), NONE);
        House.due("nothing is pending", h.x.round(), 0);
        House.due("neither CELLS nor EDITION", h.cellAt("B1") + h.x.count(7), "EMPTY1");
        House.due("REFUSED by a CHANGE alone", h.round("+e(0)."), -1);
        House.due("REFUSED ones", h.x.count(8), 2);
        House.due("a round that is right", h.round("-e(50)."), 1);
        House.due("ROUNDS", h.x.count(0), 5);
    }

    // "edits(), predicate(.., 7) are 0 ahead of any round, and behind back() and line() until the next round that isn't REFUSED"
    private static void refusedBehindBackAndLine() {
        House h = new House();
        h.start("input e/1. output e.", repeat("+e(#).", 0, 100));
        House.due("edits()", h.x.edits(), 100);
        House.due("REFUSED", h.round("+e(100)."), -1);
        House.due("they stay", h.x.edits(), 100);
        h.x.line(0);
        House.due("behind line()", h.x.edits() + h.x.predicate(0, 7), 0);
        House.due("REFUSED", h.round("+e(100)."), -1);
        House.due("still 0", h.x.edits() + h.x.predicate(0, 7), 0);
        House.due("a right one", h.round("-e(0)."), 1);
        House.due("1 now", h.x.edits() + h.x.predicate(0, 7), 2);
        h.x.back(2);
        House.due("behind back() to the present one", h.x.edits() + h.x.predicate(0, 7), 0);
        House.due("a round of nothing", h.x.round(), 0);
        House.due("0", h.x.edits() + h.x.predicate(0, 7), 0);
    }

    // "8 rounds that were REFUSED (of all lines)"
    private static void refusedOfAllLines() {
        House h = new House();
        for (int k = 0; k < 4; k++) {
            h.x.line(k);
            h.program("p(0). p(X+1):-p(X).");
            House.due("REFUSED", h.x.round(), -1);
            House.due("of all lines", h.x.count(8), k + 1);
        }
        h.x.back(0);
        h.x.branch(0, 0);
        h.x.round();
        House.due("they stay", h.x.count(8), 4);
    }

    // "CHANGED is a predicate whose rows are others behind the round than ahead of it"
    private static void changed() {
        House h = new House();
        h.start("input e/1. p(X):-e(X),X<5. q(count()):-p(X).", "+e(1). +e(9).");
        int[][] due = {{1, 1, 1}, {1, 0, 0}, {1, 1, 0}, {0, 0, 0}, {1, 1, 1}, {0, 0, 0}};
        String[] changes = {"", "-e(9).", "-e(1). +e(2).", "-e(2). +e(2).", "-e(2).", ""};
        for (int i = 0; i < changes.length; i++) {
            if (i > 0) {
                h.round(changes[i]);
            }
            for (int p = 0; p < 3; p++) {
                House.due("CHANGED " + p + " behind " + changes[i], h.x.predicate(p, 7), due[i][p]);
            }
        }
    }

    // "A predicate that is no INPUT is WORKED in a round, once, if one that it reads is CHANGED, or (all predicates of a RING together) one that its RING reads"
    private static void worked() {
        House h = new House();
        h.start("input a/1. input b/1. p(X):-a(X). q(X):-p(X),not b(X). r(1):-s(1). s(X):-r(X). s(X):-b(X). t(1). u(count()):-t(X).", "");
        // a b p q r s t u
        int[][] due = {{0, 0, 1, 1, 1, 1, 1, 1}, {0, 0, 2, 2, 1, 1, 1, 1}, {0, 0, 2, 3, 2, 2, 1, 1}, {0, 0, 2, 3, 2, 2, 1, 1}, {0, 0, 3, 4, 2, 2, 1, 1}};
        String[] changes = {"", "+a(1).", "+b(7).", "-b(9). +a(1).", "+a(7)."};
        for (int i = 0; i < changes.length; i++) {
            if (i > 0) {
                h.round(changes[i]);
            }
            for (int p = 0; p < 8; p++) {
                House.due("WORKED " + p + " behind " + changes[i], h.x.predicate(p, 5), due[i][p]);
            }
        }
    }

    // "or the EDITION is new" "0 with a new one (then WORKED in its round)" "An EDITION is new also if its text is the same."
    private static void workedWithANewEdition() {
        House h = new House();
        String text = "input e/1. p(X):-e(X). q(X):-p(X).";
        h.start(text, "+e(1).");
        h.round("+e(2).");
        House.due("WORKED twice", h.x.predicate(1, 5) + h.x.predicate(2, 5), 4);
        h.start(text, "");
        House.due("once with the new one", h.x.predicate(1, 5) + h.x.predicate(2, 5), 2);
        House.due("an INPUT never", h.x.predicate(0, 5), 0);
        House.due("EDITIONS", h.x.count(7), 2);
        h.round("+e(3).");
        House.due("twice", h.x.predicate(1, 5), 2);
        h.x.back(3);
        House.due("counts stay with the same EDITION", h.x.predicate(1, 5), 2);
        h.x.back(2);
        House.due("0 behind a BACK to a round with another one", h.x.predicate(1, 5), 0);
        h.x.back(0);
        h.start(text, "");
        House.due("and with a new one", h.x.predicate(1, 5), 1);
    }

    // "rows of outputs (as the EDITION is now) that came or went, outputs by their numbers, rows in THE ORDER"
    private static void editsOfOutputs() {
        House h = new House();
        h.start("input e/1. p(X):-e(X). output p.", "+e(2). +e(1). +e(a).");
        House.due("outputs alone", h.edits(), "+1:1 +1:2 +1:a");
        h.round("-e(1). +e(0). -e(a). +e(3).");
        House.due("came and went in one order", h.edits(), "+1:0 -1:1 +1:3 -1:a");
        h.start("output e. input e/1. p(X):-e(X), X>0.", "");
        House.due("an output no more", h.edits(), "");
        h.start("output p. output e. input e/1. p(X):-e(X).", "+e(8).");
        House.due("as the EDITION is now", h.edits(), "+0:0 +0:8 +1:8");
    }

    // "0 ahead of any, and behind back(), line() (VI)" "of a line that became a BRANCH likewise"
    private static void editsBehindBackAndLine() {
        House h = new House();
        House.due("ahead of any", h.x.edits(), 0);
        h.start("input e/1. output e.", "+e(1).");
        h.x.branch(1, 1);
        House.due("branch() leaves them", h.x.edits(), 1);
        h.x.merge(1);
        h.x.forget();
        h.query("e(X).");
        h.cell("A1=1");
        House.due("so do other calls", h.x.edits(), 1);
        House.due("line() to none such", h.x.line(4), NONE);
        House.due("back() to none such", h.x.back(2), NONE);
        House.due("they stay", h.x.edits() + h.x.predicate(0, 7), 2);
        h.x.line(1);
        House.due("of a line that became a BRANCH", h.x.edits() + h.x.predicate(0, 7), 0);
        h.x.line(0);
        House.due("behind line()", h.x.edits() + h.x.predicate(0, 7), 0);
        House.throwsNone("no EDIT", () -> h.x.edit(0, 0));
    }

    // "NoSuchElementException: there is none such." (edit)
    private static void editNumbers() {
        House h = new House();
        h.start("input e/1. output e. input f/4. output f.", "+e(7). +f(1,2,3,4).");
        House.due("two EDITS", h.x.edits(), 2);
        long[][] due = {{0, 1, 7}, {1, 1, 1, 2, 3, 4}};
        for (int i = 0; i < 2; i++) {
            for (int what = 0; what < due[i].length; what++) {
                House.due("edit(" + i + ", " + what + ")", h.x.edit(i, what), due[i][what]);
            }
        }
        int[][] none = {{0, 3}, {1, 6}, {0, -1}, {1, -1}, {2, 0}, {-1, 0}, {2, -1}, {Integer.MIN_VALUE, 0}, {Integer.MAX_VALUE, 0}, {0, Integer.MAX_VALUE}, {0, Integer.MIN_VALUE}};
        for (int[] one : none) {
            House.throwsNone("edit(" + one[0] + ", " + one[1] + ")", () -> h.x.edit(one[0], one[1]));
        }
        h.round("-f(1,2,3,4).");
        House.due("went", h.x.edit(0, 1), 0);
        House.due("its last value", h.x.edit(0, 5), 4);
    }

    // "NONE for another what" (count)
    private static void countNumbers() {
        House h = new House();
        h.start("input e/1. output e. p(X):-e(X). p(0).", "+e(1). +e(2).");
        h.round("-e(2).");
        h.change("+e(5). +e(6). +e(7).");
        h.feed("1234");
        long[] due = {2, 0, 2, 2, 3, 0, 3, 1, 0, 4};
        for (int what = 0; what < due.length; what++) {
            House.due("count(" + what + ")", h.x.count(what), due[what]);
        }
        for (int what : new int[] {-1, 10, 11, Integer.MIN_VALUE, Integer.MAX_VALUE}) {
            House.due("count(" + what + ")", h.x.count(what), NONE);
        }
        h.x.line(2);
        House.due("the line", h.x.count(5), 2);
    }

    // "NoSuchElementException: there is no such predicate; NONE for another what."
    private static void predicateNumbers() {
        House h = new House();
        h.start("output p. input e/4 key 3. p(X):-e(X,_,_,_).", "+e(1,2,3,4).");
        long[][] due = {{1, 0, 0, 1, 0, 1, 1, 1}, {4, 3, 1, 0, 1, 0, 1, 1}};
        for (int p = 0; p < 2; p++) {
            for (int what = 0; what < 8; what++) {
                House.due("predicate(" + p + ", " + what + ")", h.x.predicate(p, what), due[p][what]);
            }
            for (int what : new int[] {-1, 8, Integer.MIN_VALUE, Integer.MAX_VALUE}) {
                House.due("predicate(" + p + ", " + what + ")", h.x.predicate(p, what), NONE);
            }
        }
        for (int p : new int[] {-1, 2, 15, 16, Integer.MIN_VALUE, Integer.MAX_VALUE}) {
            House.throwsNone("predicate(" + p + ", 0)", () -> h.x.predicate(p, 0));
            House.throwsNone("predicate(" + p + ", 8)", () -> h.x.predicate(p, 8));
        }
        House full = new House();
        full.start(repeat("n#(1).", 0, 16), "");
        House.due("predicate(15, 6)", full.x.predicate(15, 6), 1);
        House.throwsNone("predicate(16, 6)", () -> full.x.predicate(16, 6));
    }

    // "A value of a predicate's i-th row ... NoSuchElementException: there is none such." (value, pastValue)
    private static void valueNumbers() {
        House h = new House();
        h.start("input e/4. input f/1. input g/2.", "+e(1,2,3,4). +f(1). +f(2).");
        House.due("value(0, 0, 3)", h.x.value(0, 0, 3), 4);
        House.due("value(1, 1, 0)", h.x.value(1, 1, 0), 2);
        House.due("pastValue(1, 0, 0, 3)", h.x.pastValue(1, 0, 0, 3), 4);
        int[][] none = {{0, 0, 4}, {0, 0, -1}, {0, 1, 0}, {0, -1, 0}, {1, 0, 1}, {1, 2, 0}, {2, 0, 0}, {3, 0, 0}, {-1, 0, 0}, {Integer.MIN_VALUE, 0, 0},
            {0, Integer.MIN_VALUE, 0}, {0, 0, Integer.MIN_VALUE}, {Integer.MAX_VALUE, 0, 0}, {0, Integer.MAX_VALUE, 0}, {0, 0, Integer.MAX_VALUE}};
        for (int[] one : none) {
            House.throwsNone("value(" + one[0] + ", " + one[1] + ", " + one[2] + ")", () -> h.x.value(one[0], one[1], one[2]));
            House.throwsNone("pastValue(1, " + one[0] + ", " + one[1] + ", " + one[2] + ")", () -> h.x.pastValue(1, one[0], one[1], one[2]));
        }
        for (int round : new int[] {-1, 0, 2, 519, 520, 521, Integer.MIN_VALUE, Integer.MAX_VALUE}) {
            House.throwsNone("pastValue(" + round + ", 0, 0, 0)", () -> h.x.pastValue(round, 0, 0, 0));
            House.due("past(" + round + ", 0)", h.x.past(round, 0), NONE);
        }
        House.due("past(1, 1)", h.x.past(1, 1), 2);
        House.due("past(1, 2)", h.x.past(1, 2), 0);
        for (int p : new int[] {-1, 3, 16, Integer.MIN_VALUE, Integer.MAX_VALUE}) {
            House.due("past(1, " + p + ")", h.x.past(1, p), NONE);
        }
    }

    // "NONE, if none did, or what was read latest by one of these had none." "place(): what is WRONG has no FAULT."
    private static void placeOfTheLatest() {
        House h = new House();
        House.due("none did", h.x.place(), NONE);
        String[] faults = {"p(X).", "+n(1).", "n(X)."};
        int[] places = {2, 1, 0};
        String[] right = {"input e/1.", "+e(1).", "1 = 1."};
        for (int kind = 0; kind < 3; kind++) {
            for (int other = 0; other < 3; other++) {
                for (int wrong = 0; wrong < 2; wrong++) {
                    h.program("input e/1.");
                    read(h, kind, faults[kind]);
                    House.due("place of " + faults[kind], h.x.place(), places[kind]);
                    h.cell("A1=");
                    h.cell("A1=!");
                    h.x.edits();
                    House.due("it stays", h.x.place(), places[kind]);
                    read(h, other, wrong == 1 ? "!" : right[other]);
                    House.due("behind " + (wrong == 1 ? "a WRONG one" : right[other]), h.x.place(), NONE);
                }
            }
        }
        h.program("p(X).");
        h.x.round();
        h.x.line(1);
        h.x.back(0);
        House.due("at another line", h.x.place(), 2);
    }

    private static void read(House h, int kind, String text) {
        if (kind == 0) {
            h.program(text);
        } else if (kind == 1) {
            h.change(text);
        } else {
            h.query(text);
        }
    }

    // "A value of an ANSWER of the latest query() that had some (without VARIABLES, too; not one of -6000)."
    private static void answersNumbers() {
        House h = new House();
        h.start("input e/2.", "+e(1,a). +e(2,b).");
        House.throwsNone("none yet", () -> h.x.answer(0, 0));
        House.due("no ANSWER", h.query("e(X,X)."), 0);
        House.throwsNone("none still", () -> h.x.answer(0, 0));
        House.due("two", h.query("e(X,Y)."), 2);
        House.due("answer(1, 1)", h.x.answer(1, 1), House.value("b"));
        int[][] none = {{2, 0}, {-1, 0}, {0, 2}, {0, -1}, {Integer.MIN_VALUE, 0}, {Integer.MAX_VALUE, 0}, {0, Integer.MIN_VALUE}, {0, Integer.MAX_VALUE}, {0, 7}, {0, 8}};
        for (int[] one : none) {
            House.throwsNone("answer(" + one[0] + ", " + one[1] + ")", () -> h.x.answer(one[0], one[1]));
        }
        h.query("e(X,X).");
        h.query("1 = 2.");
        h.query("e(X");
        h.query("n(X).");
        h.query("Y < 1.");
        House.due("none of these had some", h.x.answer(1, 0), 2);
        House.due("without VARIABLES", h.query("e(_,_)."), 1);
        House.throwsNone("it has no value", () -> h.x.answer(0, 0));
        House.due("one VARIABLE", h.query("e(X,b)."), 1);
        House.due("answer(0, 0)", h.x.answer(0, 0), 2);
        House.throwsNone("answer(0, 1)", () -> h.x.answer(0, 1));
        h.round("-e(2,b).");
        House.due("they are of then", h.x.answer(0, 0), 2);
    }

    // "-6000 if there are more than 500" "how many ANSWERS, the different rows"
    private static void fiveHundredAnswers() {
        House h = new House();
        h.start("n(0). n(X+1):-n(X),X<99.", "");
        House.due("499", h.query("n(X), n(Y), Z = 100 * X + Y, Z < 499."), 499);
        House.due("500", h.query("n(X), n(Y), Z = 100 * X + Y, Z < 500."), 500);
        House.due("the last", h.x.answer(499, 1), 99);
        House.throwsNone("answer(500, 0)", () -> h.x.answer(500, 0));
        House.due("501", h.query("n(X), n(Y), Z = 100 * X + Y, Z < 501."), -6000);
        House.due("no FAULT", h.x.place(), NONE);
        House.due("the ones ahead are still there", h.x.answer(499, 1), 99);
        House.due("10000 WAYS, 100 ANSWERS", h.query("n(X), n(_), Y = X * 0."), 100);
        House.due("10000", h.query("n(X), n(Y)."), -6000);
        House.due("a million", h.query("n(X), n(Y), n(Z)."), -6000);
        House.due("a million WAYS, 1 ANSWER", h.query("n(_), n(_), n(_), 1 = 1."), 1);
    }
}

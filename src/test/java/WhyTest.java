/** Promises 17 (rank), 18 (reason). */
public final class WhyTest {
    private static final int NONE = ChangeHouse.NONE;

    public static void main(String[] args) {
        inputs();
        ranksOfARing();
        leastRuleAndWay();
        twoRings();
        gathering();
        sumsOutOfBounds();
        anyValue();
        anyOfTheOwnRing();
        pastAndBranch();
        noSuchRow();
        House.end();
    }

    /** rank, rule and rows of a row: 2:1(0,3). */
    private static String why(House h, int p, int i) {
        StringBuilder text = new StringBuilder(h.x.rank(p, i) + ":" + h.x.reason(p, i, 0) + "(");
        for (int j = 1; h.x.reason(p, i, j) != NONE; j++) {
            text.append(j == 1 ? "" : ",").append(h.x.reason(p, i, j));
        }
        return text + ")";
    }

    private static void all(String what, House h, int p, String due) {
        StringBuilder text = new StringBuilder();
        for (int i = 0; i < h.x.predicate(p, 6); i++) {
            text.append(i == 0 ? "" : " ").append(why(h, p, i));
        }
        House.due(what, text.toString(), due);
    }

    private static void inputs() {
        House h = new House();
        h.start("input e/1. p(X) :- e(X). p(7).", "+e(1).");
        House.due("RANK of an INPUT's", h.x.rank(0, 0), 0);
        House.due("its rule", h.x.reason(0, 0, 0), NONE);
        House.due("its first ATOM", h.x.reason(0, 0, 1), NONE);
        all("p", h, 1, "1:0(0) 1:1()");
        House.due("another what", h.x.reason(1, 0, 2), NONE);
        House.due("another what", h.x.reason(1, 0, -1), NONE);
        House.due("another what", h.x.reason(1, 0, Integer.MAX_VALUE), NONE);
        House.due("another what", h.x.reason(1, 0, Integer.MIN_VALUE), NONE);
    }

    private static void ranksOfARing() {
        House h = new House();
        h.start("input e/2. up(X,Y) :- e(X,Y). up(X,Z) :- up(X,Y), up(Y,Z).", "+e(1,2). +e(2,3). +e(3,4). +e(4,5).");
        // up: 1,2 1,3 1,4 1,5 2,3 2,4 2,5 3,4 3,5 4,5
        all("up", h, 1, "1:0(0) 2:1(0,4) 3:1(0,5) 3:1(1,8) 1:0(1) 2:1(4,7) 3:1(4,8) 1:0(2) 2:1(7,9) 1:0(3)");
        h.round("+e(1,4).");
        House.due("1,4 is told now", h.x.rank(1, 2), 1);
        House.due("1,5 comes by it", h.x.rank(1, 3), 2);
        House.due("its rows didn't change, its RANKS did", h.x.predicate(1, 7), 0);
        House.due("1,5 by 1,4 and 4,5", why(h, 1, 3), "2:1(2,9)");
        House g = new House();
        g.start("input e/2. up(X,Y) :- e(X,Y). up(X,Z) :- up(X,Y), e(Y,Z).", "+e(1,2). +e(2,1).");
        all("a circle", g, 1, "2:1(1,1) 1:0(0) 1:0(1) 2:1(2,0)");
    }

    private static void leastRuleAndWay() {
        House h = new House();
        h.start("input e/2. input f/2. p(X) :- f(X,Y), e(Y,_). p(X) :- e(X,Y). q(Z) :- e(Y,X), f(X,W), Z = 1. r(B,A) :- e(A,B), f(C,_).",
            "+e(1,2). +e(1,3). +e(2,2). +e(3,1). +f(1,3). +f(2,2). +f(2,1). +f(3,3).");
        // e: 1,2 1,3 2,2 3,1   f: 1,3 2,1 2,2 3,3
        all("the least rule, of it the least values", h, 2, "1:0(0,3) 1:0(1,0) 1:0(3,3)");
        all("VARIABLES as they first stand: Z, Y, X, W", h, 3, "1:2(0,1)");
        all("of the HEAD first", h, 4, "1:3(3,0) 1:3(0,0) 1:3(2,0) 1:3(1,0)");
    }

    private static void twoRings() {
        House h = new House();
        h.start("input e/2. even(1). even(Y) :- odd(X), e(X,Y). odd(Y) :- even(X), e(X,Y). both(X,Y) :- even(X), odd(Y).", "+e(1,2). +e(2,3). +e(3,4).");
        all("even", h, 1, "1:0() 3:1(0,1)");
        all("odd", h, 2, "2:2(0,0) 4:2(1,2)");
        all("another RING: RANKS begin again", h, 3, "1:3(0,0) 1:3(0,1) 1:3(1,0) 1:3(1,1)");
    }

    private static void gathering() {
        House h = new House();
        h.start("input e/2. c(X,2) :- e(X,7). c(X,count()) :- e(X,Y). c(X,Y) :- c(Y,X). c(X,sum(Y)) :- e(X,Y). c(9,Y) :- e(9,Y).",
            "+e(1,7). +e(1,8). +e(2,7). +e(9,1).");
        // c: 1,2 (rules 0, 1)  1,9 (2)  1,15... by rules: 0: 1,2 2,2; 1: 1,2 2,1 9,1; 3: 1,15 2,7 9,1; 4: 9,1; 2: the turned ones
        House.due("rows", h.rows(1), "1,2 1,9 1,15 2,1 2,2 2,7 7,2 9,1 15,1");
        all("c", h, 1, "1:0(0) 2:2(7) 1:3() 1:1() 1:0(2) 1:3() 2:2(5) 1:1() 2:2(2)");
        House.due("of a GATHERING rule no WAY", h.x.reason(1, 2, 1), NONE);
        House.due("of a GATHERING rule the rule", h.x.reason(1, 2, 0), 3);
    }

    /** As a long a word is above all numbers: a sum out of bounds may look like one, and gives no row all the same. */
    private static void sumsOutOfBounds() {
        House h = new House();
        h.start("input q/2. input r/1. p(sum(V)) :- q(X,V). p(Y) :- r(Y).",
            "+q(1,1000000000000). +q(2,1000000000000). +q(3,10460353203). +r(a).");
        House.due("the word alone", h.rows(2), "a");
        all("a sum that looks like it is not its REASON", h, 2, "1:1(0)");
        h.round("-q(1,1000000000000). -q(2,1000000000000). +r(10460353203).");
        House.due("the number and the word", h.rows(2), "10460353203 a");
        all("within bounds the sum is the REASON, the least rule", h, 2, "1:0() 1:1(1)");
        House g = new House();
        g.start("input q/2. input r/2. p(X,sum(V)) :- q(X,V). p(X,most(V)) :- r(X,V). p(X,V) :- r(X,V).",
            "+q(1,1000000000000). +q(1,999999999999). +q(1,10460353204). +r(1,a). +r(1,0). +q(2,1000000000000). +q(2,a). +r(2,1000000000000).");
        House.due("of each group", g.rows(2), "1,0 1,a 2,1000000000000");
        all("most gives the word, the sum doesn't; the edge is within bounds", g, 2, "1:2(0) 1:1() 1:0()");
    }

    private static void anyValue() {
        House h = new House();
        h.start("input e/2. input f/1. p(X) :- e(_,X), f(_). q(X) :- f(X), e(X,_).", "+e(1,5). +e(2,4). +e(2,5). +e(3,3). +f(2). +f(3).");
        all("_ is told by the first row", h, 2, "1:0(3,0) 1:0(1,0) 1:0(0,0)");
        all("q", h, 3, "1:1(0,1) 1:1(1,3)");
    }

    private static void anyOfTheOwnRing() {
        House h = new House();
        // g(3) comes at 1, g(2) at 2 by 3, g(1) at 3 by 2: the _ of g(1) may not be g(1) itself.
        h.start("input n/1. g(X) :- n(X). g(Y) :- g(X), Y = X - 1, Y > 0. h(X) :- n(X). h(1) :- h(_).", "+n(3).");
        all("g", h, 1, "3:1(1) 2:1(2) 1:0(0)");
        all("of the own RING: and lower", h, 2, "2:3(1) 1:2(0)");
    }

    private static void pastAndBranch() {
        House h = new House();
        h.start("input e/2. up(X,Y) :- e(X,Y). up(X,Z) :- up(X,Y), e(Y,Z).", "+e(1,2). +e(2,3).");
        h.round("+e(1,3).");
        House.due("1,3 is told", why(h, 1, 1), "1:0(1)");
        h.x.branch(1, 1);
        h.x.line(1);
        House.due("at a branch", why(h, 1, 1), "2:1(0,1)");
        h.x.line(0);
        h.x.back(1);
        House.due("behind back()", why(h, 1, 1), "2:1(0,1)");
        h.program("p(1).");
        h.x.round();
        House.due("with a next EDITION", why(h, 0, 0), "1:0()");
    }

    private static void noSuchRow() {
        House h = new House();
        House.throwsNone("rank(0, 0) of nothing", () -> h.x.rank(0, 0));
        h.start("input e/1. p(X) :- e(X).", "+e(1).");
        House.throwsNone("rank(1, 1)", () -> h.x.rank(1, 1));
        House.throwsNone("rank(1, -1)", () -> h.x.rank(1, -1));
        House.throwsNone("rank(2, 0)", () -> h.x.rank(2, 0));
        House.throwsNone("rank(-1, 0)", () -> h.x.rank(-1, 0));
        House.throwsNone("reason(1, 1, 0)", () -> h.x.reason(1, 1, 0));
        House.throwsNone("reason(1, -1, 0)", () -> h.x.reason(1, -1, 0));
        House.throwsNone("reason(2, 0, 0)", () -> h.x.reason(2, 0, 0));
        House.throwsNone("reason(-1, 0, 99)", () -> h.x.reason(-1, 0, 99));
    }
}

/** Promises 9 (round), 11 (predicate), 12 (value), 15 (query), 16 (answer): what a program means. */
public final class MeaningTest {
    public static void main(String[] args) {
        valuesAndOrder();
        atoms();
        negation();
        signs();
        arithmetic();
        binding();
        rings();
        counting();
        summing();
        bests();
        manyGroups();
        predicates();
        queries();
        answersStay();
        House.end();
    }

    private static void valuesAndOrder() {
        House h = new House();
        House.due("rows told", h.start("input e/2 key 1. input f/1.",
            "+f(b). +f(3). +f(ab). +f(a). +f(-3). +f(zzzzzzzz). +f(-0). +f(1000000000000). +f(-1000000000000). +e(b,1). +e(a,2). +e(a,1)."), 11);
        House.due("numbers ahead of words, a beginning first", h.rows(1), "-1000000000000 -3 0 3 1000000000000 a ab b zzzzzzzz");
        House.due("rows by their first values that differ", h.rows(0), "a,1 b,1");
        House.due("a", h.x.value(0, 0, 0), 2010460353203L);
        House.due("zzzzzzzz", h.x.value(1, 8, 0), 2282429536480L);
        House.throwsNone("value(0, 2, 0)", () -> h.x.value(0, 2, 0));
        House.throwsNone("value(0, -1, 0)", () -> h.x.value(0, -1, 0));
        House.throwsNone("value(0, 0, 2)", () -> h.x.value(0, 0, 2));
        House.throwsNone("value(0, 0, -1)", () -> h.x.value(0, 0, -1));
        House.throwsNone("value(2, 0, 0)", () -> h.x.value(2, 0, 0));
        House.throwsNone("value(-1, 0, 0)", () -> h.x.value(-1, 0, 0));
    }

    private static void atoms() {
        House h = new House();
        h.start("input e/2. loop(X) :- e(X,X). two(X,Z) :- e(X,Y), e(Y,Z). from(Y) :- e(1,Y). some(1) :- e(_,_). same(X) :- e(X,_), e(_,X).",
            "+e(1,1). +e(1,2). +e(2,3). +e(a,1).");
        House.due("a VARIABLE twice", h.rows(1), "1");
        House.due("a join", h.rows(2), "1,1 1,2 1,3 a,1 a,2");
        House.due("a value", h.rows(3), "1 2");
        House.due("any", h.rows(4), "1");
        House.due("each _ any value of its own", h.rows(5), "1 2");
        h.round("-e(1,1). -e(1,2). -e(2,3). -e(a,1).");
        House.due("nothing is left", h.x.count(6), 0);
    }

    private static void negation() {
        House h = new House();
        h.start("input n/1. input e/2. leaf(X) :- n(X), not e(X,_). lone(X) :- n(X), not e(_,X), not e(X,_). odd(X) :- n(X), not e(X,X). all(1) :- not e(_,_).",
            "+n(1). +n(2). +n(3). +e(1,2). +e(2,2).");
        House.due("not with _", h.rows(2), "3");
        House.due("two nots", h.rows(3), "3");
        House.due("not with a VARIABLE twice", h.rows(4), "1 3");
        House.due("not without VARIABLES", h.rows(5), "");
        h.round("-e(1,2). -e(2,2).");
        House.due("not without VARIABLES holds", h.rows(5), "1");
        House.due("leaves", h.rows(2), "1 2 3");
    }

    private static void signs() {
        House h = new House();
        h.start("input e/1. lt(X,Y) :- e(X), e(Y), X < Y. ge(X) :- e(X), X >= b. ne(X) :- e(X), X != 2. le(X) :- e(X), X <= 2. gt(X) :- e(X), X > a."
            + " bad(X) :- e(X), X + 1 != 0. eq(X) :- e(X), X = 2. none(1) :- a + 1 != b.",
            "+e(1). +e(2). +e(a). +e(b).");
        House.due("<", h.rows(1), "1,2 1,a 1,b 2,a 2,b a,b");
        House.due(">=", h.rows(2), "b");
        House.due("!=", h.rows(3), "1 a b");
        House.due("<=", h.rows(4), "1 2");
        House.due(">", h.rows(5), "b");
        House.due("a side without a value", h.rows(6), "1 2");
        House.due("=", h.rows(7), "2");
        House.due("!= without a value", h.rows(8), "");
    }

    private static void arithmetic() {
        House h = new House();
        h.start("input e/2. add(X+Y) :- e(X,Y). sub(X-Y) :- e(X,Y). mul(X*Y) :- e(X,Y). div(X/Y) :- e(X,Y). mod(X%Y) :- e(X,Y).",
            "+e(-7,2). +e(7,-2). +e(5,0). +e(a,1). +e(1000000000000,1). +e(1000000,1000000).");
        House.due("+", h.rows(1), "-5 5 2000000");
        House.due("-", h.rows(2), "-9 0 5 9 999999999999");
        House.due("*", h.rows(3), "-14 0 1000000000000");
        House.due("/ is cut towards 0", h.rows(4), "-3 1 1000000000000");
        House.due("% has the first one's sign", h.rows(5), "-1 0 1");
        House g = new House();
        g.start("p(1+2*3). p((1+2)*3). p(10-3-2). p(100/10/5). p(7%4*2). p(2*-3). p(1-1000000000000-2). p(1000000*1000001). p(1000000000000+1-1).", "");
        House.due("strength, and from the left; none out of bounds", g.rows(0), "-6 2 5 6 7 9");
        House w = new House();
        w.start("p(-1000000*1000000). p(-1000000*-1000001). p(0*1000000000000). p(-999999999999-1). p(-999999999999-2). p(5%0). p(0/5).", "");
        House.due("at the bounds", w.rows(0), "-1000000000000 0");
    }

    private static void binding() {
        House h = new House();
        h.start("input e/1. p(Z) :- Z = Y * 2, Y = X + 1, e(X). q(Y) :- e(X), X = Y. r(X) :- e(X), X = X. s(Y) :- e(X), Y = X + 1, Y = 3. t(X) :- (X) = 4 + 1."
            + " u(Y) :- e(X), Y = X / 0. v(X,Y) :- X = a, Y = X.",
            "+e(1). +e(2). +e(a).");
        House.due("= binds again and again", h.rows(1), "4 6");
        House.due("= from the right", h.rows(2), "1 2 a");
        House.due("both sides bound", h.rows(3), "1 2 a");
        House.due("bound by one =, tested by another", h.rows(4), "3");
        House.due("without an ATOM", h.rows(5), "5");
        House.due("no value", h.rows(6), "");
        House.due("words", h.rows(7), "a,a");
    }

    private static void rings() {
        House h = new House();
        h.start("input e/2. up(X,Y) :- e(X,Y). up(X,Z) :- up(X,Y), up(Y,Z). even(X) :- zero(X). even(Y) :- odd(X), e(X,Y). odd(Y) :- even(X), e(X,Y). zero(1).",
            "+e(1,2). +e(2,3). +e(3,4). +e(4,5).");
        House.due("a closure", h.rows(1), "1,2 1,3 1,4 1,5 2,3 2,4 2,5 3,4 3,5 4,5");
        House.due("even", h.rows(2), "1 3 5");
        House.due("odd", h.rows(4), "2 4");
        House.due("RING of e", h.x.predicate(0, 4), 0);
        House.due("RING of up", h.x.predicate(1, 4), 1);
        House.due("RING of even", h.x.predicate(2, 4), 2);
        House.due("RING of zero", h.x.predicate(3, 4), 3);
        House.due("RING of odd is that of its least predicate", h.x.predicate(4, 4), 2);
        House.due("rows that came or went", h.round("-e(2,3)."), 1 + 6 + 2 + 1);
        House.due("what held itself alone is gone", h.rows(1), "1,2 3,4 3,5 4,5");
        h.round("+e(5,3). -e(1,2).");
        House.due("a circle", h.rows(1), "3,3 3,4 3,5 4,3 4,4 4,5 5,3 5,4 5,5");
        h.round("-e(4,5).");
        House.due("a circle that is cut", h.rows(1), "3,4 5,3 5,4");
    }

    private static void counting() {
        House h = new House();
        h.start("input e/3. c(X,count()) :- e(X,_,_). d(X,count()) :- e(X,Y,_). f(X,count()) :- e(X,Y,Z). all(count()) :- e(_,_,Z). none(count()) :- e(9,_,_)."
            + " one(count()). two(count()) :- X = 1. pair(count(),X) :- e(X,Y,_), e(_,Y,Z). zero(count()) :- 1 = 2.",
            "+e(1,1,1). +e(1,1,2). +e(1,2,2). +e(2,5,5).");
        House.due("WAYS are values of VARIABLES: no _ counts", h.rows(1), "1,1 2,1");
        House.due("by two columns", h.rows(2), "1,2 2,1");
        House.due("by all columns", h.rows(3), "1,3 2,1");
        House.due("over all", h.rows(4), "3");
        House.due("no WAY, no row", h.rows(5), "");
        House.due("without LITERALS there is one WAY", h.rows(6), "1");
        House.due("one WAY by =", h.rows(7), "1");
        House.due("joined, the other ITEM behind", h.rows(8), "1,2 3,1");
        House.due("no WAY by a SIGN", h.rows(9), "");
    }

    private static void summing() {
        House h = new House();
        h.start("input e/2. s(G,sum(N)) :- e(G,N). t(sum(N)) :- e(G,N). u(G*0+1,sum(N)) :- e(G,N). v(sum(G)) :- e(G,_). w(sum(X)) :- e(_,N), X = N * 2.",
            "+e(1,5). +e(1,7). +e(2,7). +e(2,a). +e(b,c). +e(3,1000000000000). +e(3,1). +e(4,1000000000000). +e(4,5). +e(4,-5).");
        House.due("words are left out; none if all are, or out of bounds", h.rows(1), "1,12 2,7 4,1000000000000");
        House.due("out of bounds as a whole", h.rows(2), "");
        House.due("WAYS of which an ITEM has no value give none", h.rows(3), "");
        House.due("each WAY counts, but not what stands for _", h.rows(4), "10");
        House.due("each value of the VARIABLE is of a WAY", h.rows(5), "16");
        h.round("-e(3,1000000000000). -e(4,1000000000000).");
        House.due("in bounds again", h.rows(2), "20");
        House.due("groups by an EXPRESSION", h.rows(3), "1,20");
    }

    private static void bests() {
        House h = new House();
        h.start("input e/2. l(G,least(N)) :- e(G,N). m(most(N),G) :- e(G,N). a(least(N)) :- e(_,N). b(most(N)) :- e(_,N).",
            "+e(1,5). +e(1,-7). +e(1,a). +e(2,b). +e(2,ab).");
        House.due("least by THE ORDER", h.rows(1), "1,-7 2,ab");
        House.due("most by THE ORDER", h.rows(2), "a,1 b,2");
        House.due("least of all", h.rows(3), "-7");
        House.due("most of all", h.rows(4), "b");
    }

    /** Sums out of bounds give no row, so that there may be thousands of groups without one row. */
    private static void manyGroups() {
        House h = new House();
        String numbers = "input a/1. n(X) :- a(X). n(Y) :- n(X), Y = X + 1, Y < 60. v(900000000000). v(900000000001).";
        int came = h.start(numbers + " s(X,Y,sum(V)) :- n(X), n(Y), v(V).", "+a(0).");
        House.due("3600 groups out of bounds", came, 1 + 60 + 2);
        House.due("no row of them", h.x.predicate(3, 6), 0);
        came = h.start(numbers + " s(X,Y,sum(W)) :- n(X), n(Y), v(V), W = V * (1 - X / 59 * (Y % 2)).", "");
        House.due("some in bounds", h.x.predicate(3, 6), 30);
        House.due("the first of these", h.x.value(3, 0, 1), 1);
        House.due("the last of these", h.x.value(3, 29, 1), 59);
        House.due("their sum", h.x.value(3, 29, 2), 0);
        House.due("counts of so many groups pass the LIMIT", h.start(numbers + " s(X,Y,count()) :- n(X), n(Y), v(V).", ""), -1);
        House.due("rows of a gathering rule up to the LIMIT", h.start(numbers + " s(X,Y,count()) :- n(X), n(Y), X < 10, Y < 10.", ""), 30 + 100);
        House.due("and one above", h.start(numbers + " s(X,Y,count()) :- n(X), n(Y), X < 10, Y < 10. s(-1,0,1).", ""), -1);
    }

    private static void predicates() {
        House h = new House();
        h.start("output way. input e/3 key 2. input f/1. way(X,Y) :- e(X,Y,_), f(X).", "+e(1,2,3). +e(1,3,3). +f(1).");
        long[][] due = {{2, 0, 0, 1, 0, 1, 2, 1}, {3, 2, 1, 0, 1, 0, 2, 1}, {1, 0, 1, 0, 2, 0, 1, 1}};
        for (int p = 0; p < 3; p++) {
            for (int what = 0; what < 8; what++) {
                House.due("predicate(" + p + ", " + what + ")", h.x.predicate(p, what), due[p][what]);
            }
            House.due("predicate(" + p + ", 8)", h.x.predicate(p, 8), ChangeHouse.NONE);
            House.due("predicate(" + p + ", -1)", h.x.predicate(p, -1), ChangeHouse.NONE);
        }
        House.throwsNone("predicate(3, 0)", () -> h.x.predicate(3, 0));
        House.throwsNone("predicate(-1, 0)", () -> h.x.predicate(-1, 0));
        House.throwsNone("predicate(3, 99)", () -> h.x.predicate(3, 99));
    }

    private static void queries() {
        House h = new House();
        h.start("input e/2. up(X,Y) :- e(X,Y). up(X,Z) :- up(X,Y), e(Y,Z).", "+e(1,2). +e(2,3). +e(3,a).");
        House.due("VARIABLES as they first stand", h.answers("up(Y,X), X != 2.", 2), "1,3 1,a 2,3 2,a 3,a");
        House.due("different rows", h.answers("up(X,_).", 1), "1 2 3");
        House.due("a join with not and =", h.answers("e(X,Y), not e(Y,_), Z = X * 10.", 3), "3,a,30");
        House.due("a SIGN first", h.answers("Y > X, e(X,Y), Y < 3.", 2), "2,1");
        House.due("without VARIABLES, true", h.query("e(1,2), 1 < 2."), 1);
        House.throwsNone("it has an ANSWER without values", () -> h.x.answer(0, 0));
        House.due("without VARIABLES, false", h.query("e(1,_), 2 < 1."), 0);
        House.due("without ATOMS", h.answers("X = 3, Y = X + 1.", 2), "3,4");
        House.due("no value", h.query("X = a + 1."), 0);
        House.due("with _ alone", h.query("e(_,_)."), 1);
        House.throwsNone("answer of it", () -> h.x.answer(0, 0));
        House.due("eight VARIABLES", h.answers("A = 1, B = 2, C = 3, D = 4, E = 5, F = 6, G = 7, H = 8.", 8), "1,2,3,4,5,6,7,8");
    }

    private static void answersStay() {
        House h = new House();
        h.start("input e/2. n(X) :- e(X,_). n(Y) :- n(X), Y = X + 1, Y < 23.", "+e(0,1). +e(5,6).");
        House.due("23 * 23 are too many", h.query("n(X), n(Y)."), -6000);
        House.throwsNone("no ANSWERS yet", () -> h.x.answer(0, 0));
        House.due("23 * 21", h.query("n(X), n(Y), Y < 21."), 483);
        House.due("500", h.query("n(X), n(Y), Z = X * 23 + Y, Z < 500."), 500);
        House.due("the last one", h.x.answer(499, 2), 499);
        House.due("501", h.query("n(X), n(Y), Z = X * 23 + Y, Z < 501."), -6000);
        House.due("it is still there", h.x.answer(499, 2), 499);
        h.query("n(X");
        h.query("nobody(X).");
        h.query("n(X), X > 100.");
        House.due("behind wrong, faulty and empty ones", h.x.answer(499, 0), 21);
        h.x.line(2);
        House.due("at another line", h.x.answer(499, 0), 21);
        h.x.line(0);
        h.x.back(0);
        House.due("behind back()", h.x.answer(499, 0), 21);
        House.throwsNone("answer(500, 0)", () -> h.x.answer(500, 0));
        House.throwsNone("answer(-1, 0)", () -> h.x.answer(-1, 0));
        House.throwsNone("answer(0, 3)", () -> h.x.answer(0, 3));
        House.throwsNone("answer(0, -1)", () -> h.x.answer(0, -1));
    }
}

/** Promises 4 (program), 5 (place), 6 (change), 7 (cell), 15 (query): what is WRONG, what has a FAULT, and where. */
public final class TextsTest extends Marks {
    public static void main(String[] args) {
        rightPrograms();
        wrongTokens();
        wrongStatements();
        wrongRules();
        wrongExpressions();
        wrongLiterals();
        tooMany();
        programFaults();
        unsafeFaults();
        ringFaults();
        changeTexts();
        queryTexts();
        rightCells();
        wrongCells();
        formulaTokens();
        placeIsOfTheLatest();
        House.end();
    }

    private static void rightPrograms() {
        rightProgram("", 0);
        rightProgram(" \t\r\n# input\n", 0);
        rightProgram("# a remark up to the end", 0);
        rightProgram("p(1).", 1);
        rightProgram("p(1).p(2).q(a,-3,abcdefgh,0).", 3);
        rightProgram("input e/1.input f/4 key 3.output e.output g.g(X):-e(X).", 1);
        rightProgram("input e / 2 key 1 . output e . p ( X ) :- e ( X , _ ) .", 1);
        rightProgram("input e/2key 1.", 0);
        rightProgram("input e/1. p(X) :- e(X), not e(3), X != a, X<=4, X>=-4, X<3, X>0-9, X = 2*(X+1)/3%4.", 1);
        rightProgram("input e/1. p(((((X))))) :- e(X).", 1);
        rightProgram("input e/1. p(X - -3) :- e(X).", 1);
        rightProgram("input e/1. p(X-3) :- e(X). p(X -3) :- e(X). p(X--3) :- e(X).", 3);
        rightProgram("input e/1. p(count()) :- e(X). p(sum(X)) :- e(X). p(least ( X )) :- e(X). p(most(X)) :- e(X).", 4);
        rightProgram("p(-1000000000000, 1000000000000).", 1);
        rightProgram("p(if). if(p).", 2);
        rightProgram("input e/1. p(X) :- e(X), a = a, abc < X, abc+1 = X.", 1);
        rightProgram("input e/1. p(X) :- e\n(X).", 1);
        rightProgram(LONG_NAME + "(1).", 1);
        rightProgram("a_1(1). a__(1). a0(2).", 3);
        rightProgram("input e/1. p(Abcdefgh) :- e(Abcdefgh), e(A1b2), A1b2 = Abcdefgh.", 1);
        rightProgram("p(1):-1=1.", 1);
        rightProgram("p(-0).", 1);
        rightProgram("p(1).#p(2).\np(3).", 2);
        rightProgram("inputs(1). notp(1). keys(1). counts(1).", 4);
    }

    private static void wrongTokens() {
        wrongProgram("^!");
        wrongProgram("p(1)^!.");
        wrongProgram("p(1):-1^!1.");
        wrongProgram("p(1):-1^! =1.");
        wrongProgram("p(1):-1^!");
        wrongProgram("^$");
        wrongProgram("^\u0000");
        wrongProgram("p(1).^\u00e4");
        wrongProgram("p(^\"a\").");
        wrongProgram("p(0^1).");
        wrongProgram("p(0^0).");
        wrongProgram("p(-0^1).");
        wrongProgram("p(1^a).");
        wrongProgram("p(^1000000000001).");
        wrongProgram("p(-^1000000000001).");
        wrongProgram("p(^99999999999999999999999999999999).");
        wrongProgram("p(^_).");
        wrongProgram("p(1):-p(_^x).");
        wrongProgram("p(1):-p(_^_).");
        wrongProgram("p(1):-p(_^X).");
        wrongProgram("p(1):-p(_^1).");
        wrongProgram("p^X(1).");
        wrongProgram("p(1):-p(X^_).");
        wrongProgram(LONG_NAME + "^m(1).");
        wrongProgram(LONG_NAME + "^mnopqrstuvwxyz");
        wrongProgram("input " + LONG_NAME + "^_/1.");
        wrongProgram("output " + LONG_NAME + "^0.");
        wrongProgram("p(1):-p(Abcdefgh^i).");
        wrongProgram("p(Abcdefgh^1).");
        wrongProgram("p(^- 3).");
        wrongProgram("p(^-a).");
        wrongProgram("p(^-");
        wrongProgram("p(^-X).");
        wrongProgram("p(^-#\n3).");
        wrongProgram("p(1)^: - p(1).");
        wrongProgram("p(1)^:");
        wrongProgram("p(1):-1=^<1.");
        wrongProgram("p(1):-1=^=1.");
        wrongProgram("p(1):-1<^>1.");
    }

    private static void wrongStatements() {
        wrongProgram("^(1).");
        wrongProgram("^X.");
        wrongProgram("^1.");
        wrongProgram("^.");
        wrongProgram("p(1).^.");
        wrongProgram("^not p(1).");
        wrongProgram("^key(1).");
        wrongProgram("^count(1).");
        wrongProgram("^sum(1).");
        wrongProgram("input^");
        wrongProgram("input ^(1).");
        wrongProgram("input ^input/1.");
        wrongProgram("input ^X/1.");
        wrongProgram("input e^");
        wrongProgram("input e^.");
        wrongProgram("input e/^");
        wrongProgram("input e/^0.");
        wrongProgram("input e/^5.");
        wrongProgram("input e/^02.");
        wrongProgram("input e/^12.");
        wrongProgram("input e/^-1.");
        wrongProgram("input e/^a.");
        wrongProgram("input e/^9999999999999.");
        wrongProgram("input e/1^");
        wrongProgram("input e/1^,");
        wrongProgram("input e/2 key^");
        wrongProgram("input e/2 key ^2.");
        wrongProgram("input e/2 key ^0.");
        wrongProgram("input e/1 key ^1.");
        wrongProgram("input e/1 key ^.");
        wrongProgram("input e/4 key ^4.");
        wrongProgram("input e/4 key ^k.");
        wrongProgram("input e/4 key 3 ^key 2.");
        wrongProgram("input e/4 ^keys 3.");
        wrongProgram("output^");
        wrongProgram("output ^output.");
        wrongProgram("output e^/1.");
        wrongProgram("output e^");
    }

    private static void wrongRules() {
        wrongProgram("p^");
        wrongProgram("p^.");
        wrongProgram("p ^");
        wrongProgram("p(^).");
        wrongProgram("p(1^");
        wrongProgram("p(1,^).");
        wrongProgram("p(1,2,3,4^,5).");
        wrongProgram("p(1)^");
        wrongProgram("p(1)^,");
        wrongProgram("p(1):-^.");
        wrongProgram("p(1):-^");
        wrongProgram("p(1):-p(1)^");
        wrongProgram("p(1):-p(1),^.");
        wrongProgram("p(1):-p(1)^:-p(1).");
        wrongProgram("p(sum^).");
        wrongProgram("p(count^+1).");
        wrongProgram("p(count(^X)).");
        wrongProgram("p(count()^+1).");
        wrongProgram("p(1+^count()).");
        wrongProgram("p((^count())).");
        wrongProgram("p(sum(^)).");
        wrongProgram("p(sum(^3)).");
        wrongProgram("p(sum(^_)).");
        wrongProgram("p(least(X^,Y)).");
        wrongProgram("p(most(X^+1)).");
        wrongProgram("p(sum(X),^sum(X)).");
        wrongProgram("p(count(),1,^most(X)).");
        wrongProgram("p(^not).");
        wrongProgram("p(^input).");
        wrongProgram("p(^key).");
        wrongProgram("p(^abcdefghi).");
        wrongProgram("p(^a1).");
        wrongProgram("p(^a_).");
        wrongProgram("p(^abcdefghijklmn).");
    }

    private static void wrongExpressions() {
        wrongProgram("p(1+^).");
        wrongProgram("p(1+^*2).");
        wrongProgram("p(^+1).");
        wrongProgram("p(1 ^1).");
        wrongProgram("p((1)^.");
        wrongProgram("p((1^,2)).");
        wrongProgram("p((^)).");
        wrongProgram("p(1)^).");
        wrongProgram("p(((((^(1)))))).");
        wrongProgram("p((1)+((((2))))+((((^(3)))))).");
        wrongProgram("p(X^(1)).");
        wrongProgram("p(abc^(1)).");
        wrongProgram("p(1):-X=abc^(1).");
        wrongProgram("p(1):-(X)^(1).");
        wrongProgram("p(1):-1=2+^count().");
    }

    private static void wrongLiterals() {
        wrongProgram("p(1):-not^");
        wrongProgram("p(1):-not ^X=1.");
        wrongProgram("p(1):-not ^(p(1)).");
        wrongProgram("p(1):-not ^not p(1).");
        wrongProgram("p(1):-not p ^=1.");
        wrongProgram("p(1):-^count.");
        wrongProgram("p(1):-^input(1).");
        wrongProgram("p(1):-1^");
        wrongProgram("p(1):-1^.");
        wrongProgram("p(1):-1^,1=1.");
        wrongProgram("p(1):-1=1^=1.");
        wrongProgram("p(1):-1=^.");
        wrongProgram("p(1):-1=^");
        wrongProgram("p(1):-abc^.");
        wrongProgram("p(1):-abc^");
        wrongProgram("p(1):-abc ^abc.");
        // What could still become an ATOM's NAME is wrong at what is behind it.
        wrongProgram("p(1):-abcdefghi^=1.");
        wrongProgram("p(1):-a1 ^= 1.");
        wrongProgram("p(1):-a_^");
        wrongProgram("p(1):-a_ # so\n ^.");
        wrongProgram("p(1):-" + LONG_NAME + "^.");
        wrongProgram("p(1):-" + LONG_NAME + "^m=1.");
        wrongProgram("p(1):-not " + LONG_NAME + "^m(1).");
        // ... but not behind a sign.
        wrongProgram("p(1):-1=^a1.");
        wrongProgram("p(1):-1=^abcdefghi.");
        wrongProgram("p(1):-(^a1)=1.");
        wrongProgram("p(1):-p(^).");
        wrongProgram("p(1):-p(1,2,3,4^,5).");
        wrongProgram("p(1):-p(^(1)).");
        wrongProgram("p(1):-p(1^+1).");
        wrongProgram("p(1):-p(^sum).");
        wrongProgram("p(1):-p(X ^X).");
        wrongProgram("p(1):-p(^abcdefghijklmn).");
        wrongProgram("p(1):-^_=1.");
    }

    private static String names(int n) {
        StringBuilder text = new StringBuilder();
        for (int i = 0; i < n; i++) {
            text.append("n").append(i).append("(1).");
        }
        return text.toString();
    }

    private static void tooMany() {
        rightProgram(names(16) + "output n3.", 16);
        wrongProgram(names(16) + "^q(1).");
        wrongProgram(names(16) + "input ^q/1.");
        wrongProgram(names(16) + "output ^q.");
        wrongProgram(names(16) + "n0(1):-^q(1).");
        wrongProgram(names(16) + "n0(1):-not ^q(1).");
        wrongProgram(names(16) + LONG_NAME + "^m(1).");
        rightProgram(names(16) + "n0(1):-q=1.", 17);
        rightProgram("p(1).".repeat(24) + "input e/1. output p.", 24);
        wrongProgram("p(1).".repeat(24) + "^p(1).");
        wrongProgram("p(1).".repeat(24) + "^abcdefghijklmnop(1).");
        wrongProgram("p(1).".repeat(24) + "^5");
        rightProgram("p(1):-" + "1=1,".repeat(7) + "1=1.", 1);
        wrongProgram("p(1):-" + "1=1,".repeat(8) + "^1=1.");
        wrongProgram("p(1):-" + "1=1,".repeat(8) + "^p(1).");
        wrongProgram("p(1):-" + "1=1,".repeat(8) + "^.");
        wrongProgram("p(1):-" + "not q(1),".repeat(8) + "^not q(1).");
        rightProgram("q(1). p(1):-q(1),q(1),q(1),not q(2),not q(2),not q(2).", 2);
        wrongProgram("q(1). p(1):-q(1),q(1),q(1),not q(2), ^q(1).");
        wrongProgram("q(1). p(1):-q(1),q(1),q(1),^abcdefghij(1).");
        wrongProgram("q(1). p(1):-q(1),q(1),q(1),abcdefghij^=1.");
        rightProgram("q(1,1,1,1). p(A):-q(A,B,C,D),q(E,F,G,H).", 2);
        wrongProgram("q(1,1,1,1). p(A):-q(A,B,C,D),q(E,F,G,H),^I=A.");
        wrongProgram("q(1,1,1,1). p(A):-q(A,B,C,D),q(E,F,G,H),Abcdefgh^i=A.");
        wrongProgram("q(1,1,1,1). p(A,sum(B)):-q(C,D,E,F),q(G,H,A,^I).");
        rightProgram("q(1,1,1,1). p(A):-q(A,B,C,D),q(E,F,G,H). p(I):-q(I,J,K,L).", 3);
    }

    private static void programFaults() {
        faultyProgram(1, "input n/1. input ^n/2.");
        faultyProgram(1, "input n/1. output n. output ^n.");
        faultyProgram(1, "input n/1. ^n(1).");
        faultyProgram(1, "n(1). input ^n/1.");
        faultyProgram(1, "n(1). n(2). input ^n/1. input n/1.");
        faultyProgram(1, "output n. input n/1. input ^n/1. output n.");
        faultyProgram(1, "output n. input n/1. output ^n. input n/1.");
        faultyProgram(1, "p(1). input q/1. ^q(X):-r(X). input p/1.");
        // The first kind goes ahead of earlier places of another one.
        faultyProgram(1, "p(X):-q(X,Y). input ^p/1.");
        faultyProgram(2, "p(X):-^q(X).");
        faultyProgram(2, "p(X):-not ^q(X).");
        faultyProgram(2, "output ^q. p(1).");
        faultyProgram(2, "p(1). output p. output ^q. r(1):-s(1).");
        faultyProgram(2, "p(Y,1):-^q(X). p(1).");
        faultyProgram(3, "input e/2. p(X):-^e(X).");
        faultyProgram(3, "p(X):-e(X). input ^e/2.");
        faultyProgram(3, "p(1). ^p(1,2). p(1).");
        faultyProgram(3, "p(1,2). q(X):-^p(X). p(3,4).");
        faultyProgram(3, "q(X):-p(X,Y). ^p(1).");
        faultyProgram(3, "p(Y). ^p(1,2).");
        faultyProgram(3, "output p. p(1). q(1):-not ^p(1,1).");
    }

    private static void unsafeFaults() {
        faultyProgram(4, "p(^X).");
        faultyProgram(4, "input e/2. p(X,^Y) :- e(X,_).");
        faultyProgram(4, "input e/1. p(X) :- e(X), not e(^Y).");
        faultyProgram(4, "input e/1. p(^X) :- not e(X).");
        faultyProgram(4, "input e/1. p(1) :- ^X < 3.");
        faultyProgram(4, "input e/1. p(1) :- ^X = X.");
        faultyProgram(4, "input e/1. p(1) :- ^X = Y, Y = X.");
        faultyProgram(4, "input e/1. p(1) :- ^X + 0 = 3.");
        faultyProgram(4, "input e/1. p(1) :- e(X), ^Y = Z, Z > X.");
        faultyProgram(4, "input e/1. p(sum(^X)).");
        faultyProgram(4, "input e/1. p(Z, ^Y) :- e(Z), not e(X), Y = X.");
        faultyProgram(4, "input e/1. q(1). p(1) :- e(X), X != ^Y. p(Z).");
        faultyProgram(4, "input e/1. p(X) :- e(X), ^Y = X + Y.");
        rightProgram("input e/1. p(X) :- X = 3.", 1);
        rightProgram("input e/1. p(X) :- 3 = X.", 1);
        rightProgram("input e/1. p(X) :- ((X)) = 3.", 1);
        rightProgram("input e/1. p(X) :- X = Y, Y = Z + 1, Z = 4.", 1);
        rightProgram("input e/1. p(Y) :- Y = X, e(X).", 1);
        rightProgram("input e/1. p(Y) :- e(X), X = Y.", 1);
        rightProgram("input e/1. p(Y) :- not e(Y), Y = 2.", 1);
        rightProgram("p(count()).", 1);
    }

    private static void ringFaults() {
        faultyProgram(5, "input e/1. ^p(X) :- e(X), not p(X).");
        faultyProgram(5, "input e/1. ^p(X) :- e(X), not q(X). q(X) :- e(X), not p(X).");
        faultyProgram(5, "input e/1. p(X) :- q(X). ^q(X) :- e(X), not p(X).");
        faultyProgram(5, "input e/1. ^p(count()) :- p(X). p(X) :- e(X).");
        faultyProgram(5, "input e/1. p(X) :- q(X). p(X) :- e(X). ^q(most(X)) :- p(X), e(X).");
        faultyProgram(5, "input e/1. p(X) :- q(X). q(X) :- r(X). ^r(X) :- e(X), not p(X). p(X) :- e(X).");
        rightProgram("input e/1. p(X) :- e(X). p(X) :- p(X), not e(3). q(count()) :- p(X). r(X) :- q(X), not p(X).", 4);
        rightProgram("input e/1. p(count()) :- e(X). q(X) :- p(X). q(X) :- q(X).", 3);
    }

    private static void changeTexts() {
        House h = new House();
        House.due("change before any program", h.change("+e(1)."), -5002);
        House.due("place", h.x.place(), 1);
        h.program("input e/1. input f/2 key 1. p(X) :- e(X).");
        House.due("an empty change", h.change(""), 0);
        House.due("a blank change", h.change(" # +e(1).\n"), 0);
        House.due("changes", h.change("+e(1).-e( a ) . + f(-3,abcdefgh).\n- f(0 , -0)."), 4);
        House.due("pending", h.x.count(4), 4);
        wrongChange(h, "^e(1).");
        wrongChange(h, "+^");
        wrongChange(h, "+^-e(1).");
        wrongChange(h, "+e^.");
        wrongChange(h, "+e(^).");
        wrongChange(h, "+e(^X).");
        wrongChange(h, "+e(^_).");
        wrongChange(h, "+e(1^+1).");
        wrongChange(h, "+e(^(1)).");
        wrongChange(h, "+e(^-).");
        wrongChange(h, "+e(^- 1).");
        wrongChange(h, "+e(^sum).");
        wrongChange(h, "+^sum(1).");
        wrongChange(h, "+^X(1).");
        wrongChange(h, "+e(1,2,3,4^,5).");
        wrongChange(h, "+e(1)^");
        wrongChange(h, "+e(1)^+e(2).");
        wrongChange(h, "+e(1).^,");
        wrongChange(h, "+" + LONG_NAME + "^m(1).");
        wrongChange(h, "+e(^abcdefghi).");
        wrongChange(h, "+e(^1000000000001).");
        wrongChange(h, "+nobody(1). +e(^X).");
        faultyChange(h, 2, "+^nobody(1).");
        faultyChange(h, 2, "+e(1). -^p(1).");
        faultyChange(h, 3, "+^e(1,2).");
        faultyChange(h, 3, "+e(1). -^f(1). +nobody(1).");
        faultyChange(h, 2, "+e(1). +^nobody(1). -f(1).");
        House.due("pending stays", h.x.count(4), 4);
        House.due("a right change behind faults", h.change("+e(5)."), 1);
        House.due("place behind it", h.x.place(), ChangeHouse.NONE);
        h.x.round();
        House.due("rows of e", h.rows(0), "1 5");
        House.due("rows of f", h.rows(1), "-3,abcdefgh");
        // By the next EDITION, if there is one.
        h.program("input g/1.");
        faultyChange(h, 2, "+^e(1).");
        House.due("change of the next edition", h.change("+g(1)."), 1);
        h.x.forget();
        House.due("change of the program again", h.change("+e(1)."), 1);
    }

    private static void queryTexts() {
        House h = new House();
        h.start("input e/1. input f/2. p(X) :- e(X), f(X,_).", "+e(1). +e(a). +f(1,2).");
        wrongQuery(h, "^");
        wrongQuery(h, " # e(X).\n^");
        wrongQuery(h, "^.");
        wrongQuery(h, "e(X)^");
        wrongQuery(h, "e(X).^.");
        wrongQuery(h, "e(X). ^e(X).");
        wrongQuery(h, "e(X) ^:- e(X).");
        wrongQuery(h, "^input e/1.");
        wrongQuery(h, "e(X),^");
        wrongQuery(h, "e(X),e(X),e(X),^e(X).");
        wrongQuery(h, "1=1,".repeat(8) + "^1=1.");
        wrongQuery(h, "A=1,B=1,C=1,D=1,E=1,F=1,G=H,H=^I.");
        wrongQuery(h, LONG_NAME + "^m(1).");
        wrongQuery(h, "abcdefghi ^= 1.");
        wrongQuery(h, "e(X) ^e(X).");
        faultyQuery(h, 2, "^nobody(X).");
        faultyQuery(h, 2, "f(X), not ^nobody(X), Y < 1.");
        faultyQuery(h, 3, "^f(X), Y < 1.");
        faultyQuery(h, 3, "e(X), not ^e(X,X).");
        faultyQuery(h, 4, "e(X), ^Y < 1.");
        faultyQuery(h, 4, "not e(^X).");
        StringBuilder many = new StringBuilder();
        for (int i = 0; i < 7; i++) {
            many.append("not n").append(i).append("(1),");
        }
        faultyQuery(h, 2, many.toString().replaceFirst("n0", "^n0") + "not n7(1).");
        House.due("a right query", h.query("e(X)."), 2);
        House.due("place behind it", h.x.place(), ChangeHouse.NONE);
        // By the program, not by the next EDITION.
        h.program("input g/1.");
        House.due("a query of the program", h.query("e(X)."), 2);
        faultyQuery(h, 2, "^g(X).");
    }

    private static void rightCells() {
        String[] rows = {"1", "2", "3", "4", "5", "6", "7", "8", "9", "10", "11", "12"};
        House h = new House();
        for (int r = 0; r < 12; r++) {
            for (int c = 0; c < 6; c++) {
                String cell = (char) ('A' + c) + rows[r];
                House.due("cell " + cell, h.cell(cell + "="), c + 6 * r);
            }
        }
        String[] right = {"1", "-1", "abc", "A1", "F12", "(1)", "1+2*3", "A1-1", "A1--1", "sum(A1:A1)", "count(A1:F12)", "count(p)", "count(if)",
            "sum(p,1)", "least(p,4)", "most(p_1,2)", "if(1,2,3)", "if(if(1,2,3),if(A1,2,b),if(c,2,3))", "((((1))))", "(((sum(A1:A2))))",
            "iff", "sums+1", "if(1,(2),((3)))", "1+if(1,2,3)*sum(p,2)"};
        for (String formula : right) {
            House.due("cell B2 = " + formula, h.cell("B2 = " + formula), 7);
        }
    }

    private static void wrongCells() {
        wrongCell("^");
        wrongCell("  ^");
        wrongCell("^=1");
        wrongCell("^a1=1");
        wrongCell("^A=1");
        wrongCell("^A0=1");
        wrongCell("^A01=1");
        wrongCell("^A13=1");
        wrongCell("^A123=1");
        wrongCell("^G1=1");
        wrongCell("^Z9=1");
        wrongCell("^A1b=1");
        wrongCell("^AB1=1");
        wrongCell("A1^");
        wrongCell("A1 ^1");
        wrongCell("A1^<=1");
        wrongCell("A1=^=1");
        wrongCell("A1=1^.");
        wrongCell("A1=1 ^1");
        wrongCell("A1=^G1");
        wrongCell("A1=^A13");
        wrongCell("A1=^A01");
        wrongCell("A1=^A");
        wrongCell("A1=A2^_");
        wrongCell("A1=^_");
        wrongCell("A1=^-A1");
        wrongCell("A1=^- 1");
        wrongCell("A1=^+1");
        wrongCell("A1=1+^");
        wrongCell("A1=^abcdefghi");
        wrongCell("A1=^a1");
        wrongCell("A1=^input");
        wrongCell("A1=^key");
        wrongCell("A1=1+^not");
        wrongCell("A1=abc^(1)");
        wrongCell("A1=^1000000000001");
        wrongCell("A1=-^1000000000001");
        wrongCell("A1=(1^");
        wrongCell("A1=1^)");
        wrongCell("A1=(1^,2)");
        wrongCell("A1=(^)");
        wrongCell("A1=((((^(1)))))");
        wrongCell("A1=((((sum^(A1:A2)))))");
        wrongCell("A1=((((count^(p)))))");
        wrongCell("A1=if(if(if(if(if^(1,2,3),2,3),2,3),2,3),2,3)");
        wrongCell("A1=if(1,if(1,if(1,(^(1)),1),1),1)");
        // sum, count, least, most, if could go on by a ( .
        wrongCell("A1=sum^");
        wrongCell("A1=if^+1");
        wrongCell("A1=count ^");
        wrongCell("A1=1+least^*2");
        wrongCell("A1=sum(^)");
        wrongCell("A1=sum(^1)");
        wrongCell("A1=sum(A1^)");
        wrongCell("A1=sum(A1^,1)");
        wrongCell("A1=sum(A1^:-A2)");
        wrongCell("A1=sum(A1:^1)");
        wrongCell("A1=sum(A1:^A13)");
        wrongCell("A1=sum(^A13:A1)");
        wrongCell("A1=sum(B1:^A2)");
        wrongCell("A1=sum(A2:^B1)");
        wrongCell("A1=count(C3:^C2)");
        wrongCell("A1=least(^A1:A2)");
        wrongCell("A1=most(^A1)");
        wrongCell("A1=sum(p^)");
        wrongCell("A1=sum(p,^)");
        wrongCell("A1=sum(p,^0)");
        wrongCell("A1=sum(p,^5)");
        wrongCell("A1=sum(p,^-1)");
        wrongCell("A1=sum(p,1^");
        wrongCell("A1=sum(p,1^,2)");
        wrongCell("A1=count(p^,1)");
        wrongCell("A1=count(^sum)");
        wrongCell("A1=count(^input)");
        wrongCell("A1=count(" + LONG_NAME + "^m)");
        wrongCell("A1=if(1^)");
        wrongCell("A1=if(1,2^)");
        wrongCell("A1=if(1,2,3^,4)");
        wrongCell("A1=if(^)");
        wrongCell("A1=if(1,^,3)");
        wrongCell("A1=if((1^,2),3,4)");
        wrongCell("A1=1^=1");
        wrongCell("A1=1^:2");
    }

    private static void formulaTokens() {
        House h = new House();
        House.due("59 tokens", h.cell("A1=1" + "+1".repeat(29)), 0);
        House.due("60 tokens", h.cell("A1=-1" + "+1".repeat(29)), 0);
        wrongCell("A1=1" + "+1".repeat(29) + "+^1");
        wrongCell("A1=1" + "+1".repeat(29) + "+^!");
        wrongCell("A1=1" + "+1".repeat(29) + "+^abcdefghijklmnopq");
        wrongCell("A1=1" + "+1".repeat(29) + "+^Abcdefghijklmnopq");
        wrongCell("A1=-1" + "+1".repeat(29) + " ^+1");
        wrongCell("A1=1" + "+1".repeat(29) + " ^1");
        wrongCell("A1=(1" + "+1".repeat(28) + "+-^1)");
        wrongCell("A1=(1" + "+1".repeat(28) + "+sum^(p)");
        House.due("60 tokens and a remark", h.cell("A1=(1" + "+1".repeat(28) + ")-# and a remark\n"), -1 - 78);
        wrongCell("A1=(1" + "+1".repeat(28) + ")+^1 # and a remark");
    }

    private static void placeIsOfTheLatest() {
        House h = new House();
        h.program("p(X).");
        House.due("place of a fault", h.x.place(), 2);
        h.cell("A1=!");
        House.due("cell() has no word in it", h.x.place(), 2);
        h.x.round();
        House.due("nor round()", h.x.place(), 2);
        h.query("!");
        House.due("place behind a wrong query", h.x.place(), ChangeHouse.NONE);
        h.change("+e(1).");
        House.due("place of change()", h.x.place(), 1);
        h.change("+");
        House.due("place behind a wrong change", h.x.place(), ChangeHouse.NONE);
        h.query("  e(X).");
        House.due("place of query()", h.x.place(), 2);
        h.program("p(1).");
        House.due("place behind a right program", h.x.place(), ChangeHouse.NONE);
    }
}

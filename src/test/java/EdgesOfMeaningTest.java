/** Each sentence of "I. VALUES", "II. WHAT A PROGRAM MEANS" and of VI's MEANING that names an edge. */
public final class EdgesOfMeaningTest extends Marks {
    private static final String MOST = "1000000000000";

    public static void main(String[] args) {
        wordsAsLongs();
        theOrder();
        rowsInOrder();
        toldTwice();
        unknownNames();
        otherNumbers();
        unsafe();
        boundAgainAndAgain();
        rings();
        firstKindFirstPlace();
        ringNumbers();
        atomsAndAny();
        notAtoms();
        signsByTheOrder();
        sidesWithoutAValue();
        plusAndMinusAtTheBounds();
        timesAtTheBounds();
        divisions();
        noneOfWords();
        headsWithoutAValue();
        leastRows();
        countsOfWays();
        sumsAtTheBounds();
        sumsOfWords();
        bests();
        gatheringWithoutLiterals();
        equalSides();
        limitOfAnInput();
        limitOfARule();
        limitOfARing();
        limitOfAGatheringRule();
        limitOfRowsNotOfGroups();
        limitOfEachPredicate();
        growsWithoutEnd();
        House.end();
    }

    /** The rows of p, a program's first predicate, without any INPUT's. */
    private static void gives(String what, String program, String rows) {
        House h = new House();
        int told = h.program(program);
        if (told < 0) {
            throw new IllegalStateException("program() answered " + told + " for " + program);
        }
        h.x.round();
        House.due(what + ": " + program, h.rows(0), rows);
    }

    // "a word 2 * 10^12 more than its letters as digits 1 .. 26 to the base 27, eight digits, those behind its end 0"
    private static void wordsAsLongs() {
        House h = new House();
        h.start("p(a). p(z). p(aa). p(az). p(aaaaaaaa). p(zzzzzzzz). p(zzzzzzz). p(b).", "");
        long first = 10460353203L;
        long second = 387420489L;
        long ones = 0;
        long most = 0;
        for (int i = 0; i < 8; i++) {
            ones = ones * 27 + 1;
            most = most * 27 + 26;
        }
        String[] words = {"a", "aa", "aaaaaaaa", "az", "b", "z", "zzzzzzz", "zzzzzzzz"};
        long[] due = {first, first + second, ones, first + 26 * second, 2 * first, 26 * first, most - 26, most};
        for (int i = 0; i < words.length; i++) {
            House.due(words[i], h.x.value(0, i, 0), 2000000000000L + due[i]);
        }
        House n = new House();
        n.start("p(-" + MOST + "). p(" + MOST + "). p(0).", "");
        House.due("the least number is itself", n.x.value(0, 0, 0), -1000000000000L);
        House.due("0", n.x.value(0, 1, 0), 0);
        House.due("the greatest number is itself", n.x.value(0, 2, 0), 1000000000000L);
    }

    // "numbers by size, ahead of words; these letter by letter, a beginning first"
    private static void theOrder() {
        gives("THE ORDER", "p(b). p(ab). p(a). p(aa). p(az). p(" + MOST + "). p(-" + MOST + "). p(10). p(9). p(-1). p(0). p(-10). p(zzzzzzzz). p(aaaaaaaa). p(1).",
            "-" + MOST + " -10 -1 0 1 9 10 " + MOST + " a aa aaaaaaaa ab az b zzzzzzzz");
    }

    // "rows are in THE ORDER of their first values that differ"
    private static void rowsInOrder() {
        gives("four columns", "p(1,1,1,2). p(1,1,1,1). p(1,1,2,0). p(1,2,0,0). p(2,0,0,0). p(a,0,0,0). p(1,1,1,a). p(1,1,a,-1).",
            "1,1,1,1 1,1,1,2 1,1,1,a 1,1,2,0 1,1,a,-1 1,2,0,0 2,0,0,0 a,0,0,0");
        gives("one column", "p(2). p(1).", "1 2");
    }

    // "1 a NAME told as an INPUT twice, as output twice, or an INPUT that is a rule's HEAD (at the NAME that comes second, of these two)"
    // "FAULT 1 is at the second NAME by place; output of an INPUT or a HEAD is right"
    private static void toldTwice() {
        rightProgram("input n/1. output n.", 0);
        rightProgram("output n. input n/1.", 0);
        rightProgram("output n. n(1). n(2).", 2);
        faultyProgram(1, "input n/1. input ^n/1.");
        faultyProgram(1, "input n/2 key 1. input ^n/2 key 1.");
        faultyProgram(1, "n(1). output n. output ^n.");
        faultyProgram(1, "input n/1. ^n(1).");
        faultyProgram(1, "n(1). input ^n/1.");
        faultyProgram(1, "input n/1. input m/1. output n. output m. ^m(1). n(1).");
        faultyProgram(1, "n(1). output n. input ^n/1. output n.");
        faultyProgram(1, "n(1). output n. output ^n. input n/1.");
        faultyProgram(1, "input n/1. input ^n/1. input n/1.");
        faultyProgram(1, "m(1):-n(1). input n/1. ^n(1).");
        // An ATOM of an INPUT is none.
        rightProgram("m(1):-n(1). input n/1.", 1);
    }

    // "2 a NAME in an ATOM, or behind output, that is neither an INPUT nor a HEAD anywhere (at it)"
    private static void unknownNames() {
        faultyProgram(2, "output ^n.");
        faultyProgram(2, "p(1):-^n(1).");
        faultyProgram(2, "p(1):-not ^n(1).");
        faultyProgram(2, "p(1):-1=1,^n(1). output m.");
        faultyProgram(2, "output ^m. p(1):-n(1).");
        rightProgram("p(1):-n(1). n(1).", 2);
        rightProgram("p(1):-n(1). input n/1.", 1);
        rightProgram("output n. n(1):-n(1).", 1);
        House h = new House();
        h.start("input e/1. p(X):-e(X).", "");
        rightQuery(h, "e(X), not p(X).", 0);
        faultyQuery(h, 2, "e(X), ^n(X).");
        faultyQuery(h, 2, "e(X), not ^n(X).");
        rightChange(h, "+e(1).", 1);
        faultyChange(h, 2, "+^n(1).");
        faultyChange(h, 2, "+^p(1).");
        faultyChange(h, 2, "-^p(1).");
    }

    // "3 another number of ITEMS, TERMS than the first one of this predicate in the text (n of an INPUT likewise; at the NAME)"
    private static void otherNumbers() {
        rightProgram("output p. p(1,2). p(3,4). q(X):-p(X,_), not p(X,X).", 3);
        faultyProgram(3, "p(1,2). ^p(1).");
        faultyProgram(3, "p(1,2). ^p(1,2,3).");
        faultyProgram(3, "q(1):-p(1,2). ^p(1).");
        faultyProgram(3, "q(1):-not p(1,2). ^p(1).");
        faultyProgram(3, "p(1,2). q(1):-^p(1).");
        faultyProgram(3, "p(1,2). q(1):-not ^p(1,2,3).");
        faultyProgram(3, "q(1):-p(1,2). input ^p/3.");
        faultyProgram(3, "input p/3. q(1):-p(1,2,3), ^p(1,2).");
        faultyProgram(3, "p(1,count()). ^p(count()).");
        faultyProgram(3, "p(1):-q(1,1). ^q(1). q(1). q(1,1).");
        House h = new House();
        h.start("input e/1. input g/4. p(X,1):-e(X).", "");
        faultyQuery(h, 3, "^e(X,Y).");
        faultyQuery(h, 3, "g(A,B,C,D), not ^g(A,B,C).");
        faultyQuery(h, 3, "^p(X).");
        faultyChange(h, 3, "+^e(1,2).");
        faultyChange(h, 3, "+^g(1,2,3).");
        rightChange(h, "+g(1,2,3,4). +e(1).", 2);
    }

    // "4 UNSAFE: a VARIABLE that is in no ATOM without not, and not BOUND (at the first place at which it stands; in a rule the lowest)"
    private static void unsafe() {
        faultyProgram(4, "p(^X).");
        faultyProgram(4, "input e/1. p(X, ^Y):-e(X).");
        faultyProgram(4, "input e/1. p(X):-not e(^Y), e(X).");
        faultyProgram(4, "input e/1. p(^X):-not e(X).");
        faultyProgram(4, "input e/1. p(1):-^X<1.");
        faultyProgram(4, "input e/1. p(1):-1!=^X.");
        faultyProgram(4, "input e/1. p(^Z):-e(X), Y<X, Z>Y.");
        faultyProgram(4, "input e/1. p(X):-e(X), ^Y<1, Z<1.");
        faultyProgram(4, "input e/1. p(X):-e(X). p(^Y):-e(X), Z<1. p(A).");
        faultyProgram(4, "p(sum(^X)).");
        faultyProgram(4, "input e/1. p(most(^X)):-e(Y).");
        faultyProgram(4, "input e/1. p(X,least(^Y)):-e(X), not e(Y).");
        rightProgram("input e/1. p(sum(Y)):-e(X), Y=X+1.", 1);
        rightProgram("input e/1. p(X):-e(X), not e(X), X<1.", 1);
        House h = new House();
        h.start("input e/1.", "");
        faultyQuery(h, 4, "^X < 1.");
        faultyQuery(h, 4, "e(X), not e(^Y).");
        faultyQuery(h, 4, "^X = X.");
        rightQuery(h, "X = 1.", 1);
    }

    // "BOUND are those of ATOMS without not, and, again and again, a VARIABLE alone on one side of an = whose other side's VARIABLES are BOUND all"
    private static void boundAgainAndAgain() {
        gives("a chain from the right", "p(A):-A=B,B=C,C=D,D=E,E=F,F=G,G=H,H=7.", "7");
        gives("a chain from the left", "p(H):-A=7,B=A,C=B,D=C,E=D,F=E,G=F,H=G.", "7");
        gives("the VARIABLE behind the =", "p(X,Y):-3=X,X+1=Y.", "3,4");
        gives("brackets around a VARIABLE alone don't matter", "p(X,Y):-((((X))))=3,4=(Y).", "3,4");
        gives("BOUND by an ATOM behind it", "p(Y):-Y=X+1,q(X). q(4).", "5");
        gives("without VARIABLES on the other side", "p(X):-X=a.", "a");
        gives("by the least and the greatest value", "p(X):-X=-" + MOST + ". p(X):-X=" + MOST + ". p(X):-zzzzzzzz=X.", "-" + MOST + " " + MOST + " zzzzzzzz");
        gives("by what is out of bounds", "p(1):-X=-" + MOST + "-1. p(1):-X=" + MOST + "+1.", "");
        faultyProgram(4, "p(1):-^X=X.");
        faultyProgram(4, "p(1):-^X=Y,Y=X.");
        faultyProgram(4, "p(1):-^X=X+1.");
        faultyProgram(4, "p(1):-^X+0=1.");
        faultyProgram(4, "p(1):-1=^X+0.");
        faultyProgram(4, "p(1):-1=^X*1.");
        faultyProgram(4, "p(1):-^X=Y+1,Z=3.");
        faultyProgram(4, "p(1):-^X=1-Y.");
        faultyProgram(4, "p(1):-Z=1,^X=Y+Z.");
        faultyProgram(4, "p(1):-^X<=1,X>=1.");
        faultyProgram(4, "input e/1. p(1):-not e(^X),Y=X.");
        rightProgram("p(1):-X=Y+Z,Y=1,Z=Y.", 1);
        rightProgram("input e/1. p(Y):-e(Y),X=Y,Z=X.", 1);
    }

    // "5 RING: a predicate that depends on itself by a not, or by a GATHERING rule (at the HEAD of the first rule ... that reads so a predicate of its own RING)"
    // "5: by a not, or any ATOM of a GATHERING rule"
    private static void rings() {
        faultyProgram(5, "^p(1):-not p(2).");
        faultyProgram(5, "q(1). ^p(1):-q(1),not p(2).");
        faultyProgram(5, "^p(count()):-p(1).");
        faultyProgram(5, "q(1). ^p(count()):-q(X),p(1).");
        faultyProgram(5, "^p(sum(X)):-X=1,not p(1).");
        faultyProgram(5, "p(1):-q(1). ^q(1):-not p(1).");
        faultyProgram(5, "p(1):-q(1). ^q(count()):-p(1).");
        faultyProgram(5, "p(1):-q(1). q(1):-r(1). r(1). ^r(1):-not p(1).");
        faultyProgram(5, "p(1):-q(1). q(1):-p(1). ^q(2):-not p(2). p(3):-not q(2).");
        // Rings without such a reading, and such readings of what is below, are right.
        rightProgram("p(1):-q(1). q(1):-p(1). r(count()):-p(X). s(1):-not q(1),not r(1).", 4);
        rightProgram("p(1):-p(1).", 1);
        rightProgram("p(count()). p(1):-p(2).", 2);
        rightProgram("q(1). p(count()):-q(X). p(X):-p(X).", 3);
        rightProgram("p(1):-not q(1). q(1):-not r(1). r(1).", 3);
    }

    // "FAULTS, the first kind that there is, at the first place of it"
    private static void firstKindFirstPlace() {
        String ring = "^z(1):-not z(1).";
        String unsafe = "y(^V).";
        String width = "x(1). ^x(1,2).";
        String unknown = "w(1):-^nobody(1).";
        String twice = "input v/1. input ^v/1.";
        faultyProgram(5, ring);
        faultyProgram(4, plain(ring) + unsafe);
        faultyProgram(4, unsafe + plain(ring));
        faultyProgram(3, plain(ring) + plain(unsafe) + width);
        faultyProgram(3, width + plain(unsafe) + plain(ring));
        faultyProgram(2, plain(width) + plain(ring) + plain(unsafe) + unknown);
        faultyProgram(2, unknown + plain(width) + plain(unsafe) + plain(ring));
        faultyProgram(1, plain(unknown) + plain(width) + plain(ring) + plain(unsafe) + twice);
        faultyProgram(1, twice + plain(unknown) + plain(width) + plain(unsafe) + plain(ring));
        faultyProgram(5, ring + "a(1):-not a(1).");
        faultyProgram(4, unsafe + "a(V).");
        faultyProgram(3, width + "a(1).a(1,2).");
        faultyProgram(2, unknown + "a(1):-noone(1).");
        faultyProgram(1, twice + "input v/1.");
        // What is WRONG has no FAULT.
        wrongProgram("input v/1. input v/1. p(X). p(1^");
        House h = new House();
        h.start("input e/1. input f/2.", "");
        faultyQuery(h, 2, "e(X,Y), Z<1, ^nobody(1).");
        faultyQuery(h, 3, "Z<1, ^e(X,Y).");
        faultyQuery(h, 3, "^f(X), e(X,Y).");
        // A CHANGE TEXT's is the first by place.
        faultyChange(h, 3, "+e(1). +^f(1). +nobody(1).");
        faultyChange(h, 2, "+e(1). +^nobody(1). +f(1).");
    }

    // "Predicates that read one another, round about, are one RING; each other one is a RING of its own."
    private static void ringNumbers() {
        House h = new House();
        h.start("a(1). b(1):-c(1). c(1):-d(1). d(1):-b(1). e(1):-b(1),a(1). f(1):-f(1). g(1):-h(1). h(1):-g(1),b(1).", "");
        int[] due = {0, 1, 1, 1, 4, 5, 6, 6};
        for (int p = 0; p < due.length; p++) {
            House.due("RING of " + p, h.x.predicate(p, 4), due[p]);
        }
        House g = new House();
        g.start("z(1):-y(1). y(1):-x(1). x(1):-y(1).", "");
        House.due("what reads a RING is none of it", g.x.predicate(0, 4), 0);
        House.due("the least predicate", g.x.predicate(2, 4), 1);
        // Sixteen predicates in one RING.
        House all = new House();
        all.start(chain(16), "");
        for (int p = 0; p < 16; p++) {
            House.due("one RING of 16: " + p, all.x.predicate(p, 4), 0);
        }
    }

    private static String chain(int n) {
        StringBuilder text = new StringBuilder();
        for (int i = 0; i < n; i++) {
            text.append("n").append(i).append("(X):-n").append((i + 1) % n).append("(X).");
        }
        return text.toString();
    }

    // "an ATOM if there is such a row (each _ any value)"
    private static void atomsAndAny() {
        gives("each _ is for itself", "p(X):-q(X,_,_). q(1,2,3). q(1,2,2). q(2,1,1).", "1 2");
        gives("a VARIABLE twice is one value", "p(X):-q(X,X). q(1,2). q(2,2). q(a,a). q(a,b).", "2 a");
        gives("values that are told", "p(X):-q(X,2). p(X):-q(a,X). q(1,2). q(a,3). q(3,4).", "1 3");
        gives("_ alone", "p(1):-q(_). q(7).", "1");
        gives("no row", "p(1):-q(_). q(1):-1=2.", "");
    }

    // "not, if there is none (likewise)"
    private static void notAtoms() {
        gives("a row", "p(X):-q(X),not r(X). q(1). q(2). r(2). r(3).", "1");
        gives("each _ any value", "p(X):-q(X),not r(X,_). q(1). q(2). r(2,5).", "1");
        gives("all _", "p(1):-not q(_). q(1):-1=2.", "1");
        gives("all _, and there is a row", "p(1):-not q(_,_). q(1,2).", "");
        gives("one _ among others", "p(X):-q(X),not r(_,X,_). q(1). q(2). r(0,2,0).", "1");
    }

    // "a SIGN by THE ORDER, of both sides"
    private static void signsByTheOrder() {
        String q = " q(-1). q(0). q(1). q(a). q(aa). q(b).";
        gives("<", "p(X):-q(X),X<a." + q, "-1 0 1");
        gives("<=", "p(X):-q(X),X<=a." + q, "-1 0 1 a");
        gives(">", "p(X):-q(X),X>a." + q, "aa b");
        gives(">=", "p(X):-q(X),X>=a." + q, "a aa b");
        gives("=", "p(X):-q(X),X=a." + q, "a");
        gives("!=", "p(X):-q(X),X!=a." + q, "-1 0 1 aa b");
        gives("< of a number", "p(X):-q(X),0<X." + q, "1 a aa b");
        gives("<= of a number", "p(X):-q(X),X<=0." + q, "-1 0");
        gives("the greatest number is below the least word", "p(1):-" + MOST + "<a. p(2):-" + MOST + ">=a.", "1");
        gives("the least and the greatest number", "p(1):--" + MOST + "<" + MOST + ". p(2):--" + MOST + "<=-" + MOST + ". p(3):--" + MOST + "<-" + MOST + ".", "1 2");
    }

    // "A SIGN one of whose sides has none doesn't hold (!= neither)."
    private static void sidesWithoutAValue() {
        for (String sign : new String[] {"=", "!=", "<", "<=", ">", ">="}) {
            for (String none : new String[] {"1/0", "1%0", "a+1", "1-a", "a*a", MOST + "+1", "-" + MOST + "-1", "1000001*1000000"}) {
                gives("a left side without a value", "p(1):-" + none + sign + "1. p(2):-" + none + sign + "a. p(3):-" + none + sign + "-" + MOST + ".", "");
                gives("a right side without a value", "p(1):-1" + sign + none + ". p(2):-a" + sign + none + ".", "");
                gives("both", "p(1):-" + none + sign + none + ".", "");
            }
        }
        gives("a VARIABLE that would be BOUND by it", "p(1):-X=1/0. p(X):-a+1=X. p(2):-X=1/1.", "2");
    }

    // "none ... out of bounds": + and -
    private static void plusAndMinusAtTheBounds() {
        gives("+", "p(999999999999+1). p(" + MOST + "+0).", MOST);
        gives("+ beyond", "p(" + MOST + "+1). p(1+" + MOST + "). p(" + MOST + "+" + MOST + ").", "");
        gives("-", "p(-999999999999-1). p(0-" + MOST + ").", "-" + MOST);
        gives("- beyond", "p(-" + MOST + "-1). p(-1-" + MOST + "). p(-" + MOST + "-" + MOST + ").", "");
        gives("+ of one below 0", "p(-" + MOST + "+-1). p(" + MOST + "--1).", "");
        gives("one step inside", "p(" + MOST + "-1). p(-" + MOST + "+1).", "-999999999999 999999999999");
        gives("each step must be in bounds", "p(" + MOST + "+1-1). p(1-1+" + MOST + "). p(" + MOST + "+(1-1)).", MOST);
        gives("0", "p(" + MOST + "-" + MOST + ").", "0");
    }

    private static void timesAtTheBounds() {
        gives("*", "p(1000000*1000000). p(" + MOST + "*1). p(-1*-" + MOST + ").", MOST);
        gives("* below 0", "p(-1000000*1000000). p(" + MOST + "*-1).", "-" + MOST);
        gives("* beyond", "p(1000000*1000001). p(1000001*1000000). p(" + MOST + "*2). p(-1000001*1000000). p(1000001*-1000000). p(-1000001*-1000000).", "");
        gives("* far beyond", "p(" + MOST + "*" + MOST + "). p(-" + MOST + "*" + MOST + "). p(3037000500*3037000500). p(4294967296*4294967296).", "");
        gives("* by 0", "p(0*" + MOST + "). p(" + MOST + "*0). p(-" + MOST + "*0).", "0");
        gives("* one step inside", "p(999999*1000001).", "999999999999");
    }

    // "/ and % of numbers, cut towards 0, with the first one's sign, none by 0"
    private static void divisions() {
        gives("7/2", "p(7/2).", "3");
        gives("-7/2", "p(-7/2).", "-3");
        gives("7/-2", "p(7/-2).", "-3");
        gives("-7/-2", "p(-7/-2).", "3");
        gives("7%2", "p(7%2).", "1");
        gives("-7%2", "p(-7%2).", "-1");
        gives("7%-2", "p(7%-2).", "1");
        gives("-7%-2", "p(-7%-2).", "-1");
        gives("towards 0", "p(1/2). p(-1/2). p(0/5). p(0%5). p(6%3). p(-6%3).", "0");
        gives("less than the other", "p(2%3).", "2");
        gives("by 0", "p(1/0). p(1%0). p(0/0). p(0%0). p(5/(1-1)). p(-" + MOST + "/0).", "");
        gives("by 1 and -1", "p(-" + MOST + "/-1). p(" + MOST + "/1).", MOST);
        gives("by the greatest", "p(" + MOST + "/" + MOST + ").", "1");
        gives("the rest by the greatest", "p(" + MOST + "%" + MOST + ").", "0");
        gives("less than it", "p(999999999999%" + MOST + ").", "999999999999");
    }

    // "none of words"
    private static void noneOfWords() {
        for (String sign : new String[] {"+", "-", "*", "/", "%"}) {
            gives("a word first", "p(a" + sign + "1). p(a" + sign + "0).", "");
            gives("a word second", "p(1" + sign + "a). p(0" + sign + "a).", "");
            gives("both", "p(a" + sign + "a).", "");
            gives("within", "p(1+(a" + sign + "1)). p((1" + sign + "a)*0).", "");
        }
        gives("a word alone has itself", "p((a)). p(((b))).", "a b");
    }

    // "each WAY of each of its rules gives the row of its HEAD's values (none, if one has none)"
    private static void headsWithoutAValue() {
        gives("one of four", "p(1,2,3,X/0):-X=1. p(X+a,1,1,1):-X=1. p(1,X*2,3,4):-X=1.", "1,2,3,4");
        gives("some WAYS alone", "p(6/X,X):-q(X). q(0). q(2). q(a). q(-3).", "-2,-3 3,2");
        gives("of a GATHERING rule", "p(6/X,count()):-q(X). q(0). q(2). q(a). q(-3).", "-2,1 3,1");
    }

    // "the least rows such that ..."
    private static void leastRows() {
        gives("nothing holds itself", "p(1):-p(1). p(2):-q(2). q(2):-p(2).", "");
        gives("what is given is given again", "p(1). p(2):-p(1). p(1):-p(2).", "1 2");
        gives("a row that two rules give is one row", "p(1). p(1). p(2-1). p(X):-X=1.", "1");
    }

    // "count how many WAYS" (a value for each VARIABLE: an _ is none)
    private static void countsOfWays() {
        String q = " q(1,1). q(1,2). q(2,1). q(a,a).";
        gives("of a VARIABLE", "p(count()):-q(X,_)." + q, "3");
        gives("of two", "p(count()):-q(X,Y)." + q, "4");
        gives("of none", "p(count()):-q(_,_)." + q, "1");
        gives("by groups", "p(X,count()):-q(X,Y)." + q, "1,2 2,1 a,1");
        gives("the same VARIABLE", "p(count()):-q(X,X)." + q, "2");
        gives("a VARIABLE by = adds none", "p(count()):-q(X,_),Y=X." + q, "3");
        gives("no WAY, no row", "p(count()):-q(7,_)." + q, "");
        gives("none of a group", "p(X,count()):-q(X,Y),Y>1." + q, "1,1 a,1");
        gives("of a join", "p(count()):-q(A,B),q(C,D),q(E,F)." + q, "64");
    }

    // "sum of the VARIABLE's values (... none, if out of bounds ...)" "A sum is out of bounds as a whole"
    private static void sumsAtTheBounds() {
        gives("at the bound", "p(sum(X)):-q(X). q(999999999999). q(1).", MOST);
        gives("one more", "p(sum(X)):-q(X). q(999999999999). q(2).", "");
        gives("at the lower bound", "p(sum(X)):-q(X). q(-999999999999). q(-1).", "-" + MOST);
        gives("one less", "p(sum(X)):-q(X). q(-999999999999). q(-2).", "");
        gives("beyond on the way alone", "p(sum(X)):-q(X). q(" + MOST + "). q(1). q(-1).", MOST);
        gives("beyond on the way below alone", "p(sum(X)):-q(X). q(-" + MOST + "). q(-1). q(1).", "-" + MOST);
        gives("like a word's long", "p(sum(X)):-q(X,Y). q(" + MOST + ",1). q(" + MOST + ",2). q(10460353203,1).", "");
        gives("by groups", "p(Y,sum(X)):-q(X,Y). q(" + MOST + ",1). q(1,1). q(" + MOST + ",2). q(2,3).", "2," + MOST + " 3,2");
        gives("0", "p(sum(X)):-q(X). q(5). q(-5).", "0");
    }

    // "(those of WAYS in which it is a word are left out; none, if ... all are left out)"
    private static void sumsOfWords() {
        gives("words are left out", "p(sum(X)):-q(X). q(a). q(1). q(2). q(zzzzzzzz).", "3");
        gives("all are", "p(sum(X)):-q(X). q(a). q(b).", "");
        gives("a 0 is none", "p(sum(X)):-q(X). q(a). q(0).", "0");
        gives("all of a group", "p(Y,sum(X)):-q(X,Y). q(a,1). q(b,1). q(3,2). q(c,2).", "2,3");
        gives("no WAY", "p(sum(X)):-q(X). q(1):-1=2.", "");
        gives("the same value in two WAYS counts twice", "p(sum(X)):-q(X,Y). q(5,1). q(5,2).", "10");
        gives("in one WAY once", "p(sum(X)):-q(X,_). q(5,1). q(5,2).", "5");
    }

    // "least, most by THE ORDER"
    private static void bests() {
        String q = " q(3). q(-3). q(a). q(ab).";
        gives("least", "p(least(X)):-q(X)." + q, "-3");
        gives("most", "p(most(X)):-q(X)." + q, "ab");
        gives("least of words", "p(least(X)):-q(X),X>=a." + q, "a");
        gives("most of numbers", "p(most(X)):-q(X),X<a." + q, "3");
        gives("of one", "p(least(X)):-q(X),X=3. p(most(X)):-q(X),X=a." + q, "3 a");
        gives("of none", "p(least(X)):-q(X),X=9. p(most(X)):-q(X),X=9." + q, "");
    }

    // "A GATHERING rule without LITERALS has one WAY; its VARIABLE must be BOUND."
    private static void gatheringWithoutLiterals() {
        gives("count", "p(count()).", "1");
        gives("count of a group", "p(a,count(),3).", "a,1,3");
        gives("an ITEM without a value", "p(1/0,count()).", "");
        faultyProgram(4, "p(sum(^X)).");
        faultyProgram(4, "p(1,most(^X)).");
        gives("its VARIABLE by =", "p(sum(X)):-X=4. p(least(X)):-X=a.", "4 a");
    }

    // "An = whose sides are BOUND both is as other SIGNS"
    private static void equalSides() {
        gives("both BOUND", "p(X):-q(X),r(Y),X=Y. q(1). q(2). r(2). r(3).", "2");
        gives("both the same", "p(X):-q(X),X=X. q(1). q(a).", "1 a");
        gives("BOUND by another =", "p(X):-X=1,X=2. p(Y):-Y=3,3=Y.", "3");
        gives("without VARIABLES", "p(1):-1=1. p(2):-1=2. p(3):-a=a. p(4):-a=b.", "1 3");
    }

    private static String rows(int from, int to) {
        return repeat("+e(#).", from, to);
    }

    // "LIMIT: no predicate may have more than 100 rows behind a round"
    private static void limitOfAnInput() {
        House h = new House();
        House.due("99", h.start("input e/1.", rows(0, 99)), 99);
        House.due("100", h.round("+e(99)."), 1);
        House.due("101", h.round("+e(100)."), -1);
        House.due("it is as it was", h.x.predicate(0, 6), 100);
        House.due("101 on the way alone", h.round("+e(100). -e(0)."), 2);
        House.due("100 again", h.x.predicate(0, 6), 100);
        House.due("a row that is there", h.round("+e(100)."), 0);
        House.due("one less", h.round("-e(100)."), 1);
        House.due("and 101 again", h.round("+e(0). +e(100)."), -1);
    }

    private static void limitOfARule() {
        House h = new House();
        String ten = "input e/1. t(0). t(1). t(2). t(3). t(4). t(5). t(6). t(7). t(8). t(9). p(X,Y):-t(X),t(Y). ";
        House.due("100 rows", h.start(ten, ""), 110);
        House.due("101 rows", h.start(ten + "p(X,10):-e(X).", "+e(0)."), -1);
        House.due("100 rows and none more", h.start(ten + "p(X,10):-e(X).", ""), 0);
        House.due("one more by a CHANGE", h.round("+e(0)."), -1);
        House.due("two rules that give the same 100", h.start(ten + "p(Y,X):-t(X),t(Y).", ""), 0);
    }

    // "(a RING that would have more, or grow without end, passes it)"
    private static void limitOfARing() {
        String ring = "input e/1. p(X):-e(X). p(Y):-p(X),Y=X+1,Y<=";
        House h = new House();
        House.due("99", h.start(ring + "99.", "+e(1)."), 100);
        House.due("100", h.start(ring + "100.", ""), 1);
        House.due("101", h.start(ring + "101.", ""), -1);
        House.due("by a row more", h.round("+e(0)."), -1);
        House.due("by a row of the 100", h.round("+e(100)."), 1);
    }

    private static void limitOfAGatheringRule() {
        String ten = "input e/1. t(0). t(1). t(2). t(3). t(4). t(5). t(6). t(7). t(8). t(9). ";
        for (String gather : new String[] {"count()", "sum(Z)", "least(Z)", "most(Z)"}) {
            House h = new House();
            House.due("100 by " + gather, h.start(ten + "p(X,Y," + gather + "):-t(X),t(Y),Z=X.", ""), 110);
            House.due("101 by " + gather, h.start(ten + "p(X,Y," + gather + "):-t(X),t(Y),Z=X. p(X,X,X):-e(X).", "+e(-1)."), -1);
            House.due("100 rows and one of it", h.start("input e/1. p(X,7):-e(X). p(Y," + gather + "):-e(X),Z=7,Y=X+1000,X<0.", rows(0, 99) + "+e(-1)."), -1);
            // X * 10 + Y is 0 .. 109.
            String groups = ten + "t(10). p(G," + gather + "):-t(X),t(Y),Y<10,G=X*10+Y,Z=1,G<";
            House.due("99 groups by " + gather, new House().start(groups + "99.", ""), 11 + 99);
            House.due("100 groups by " + gather, new House().start(groups + "100.", ""), 11 + 100);
            House.due("101 groups by " + gather, new House().start(groups + "101.", ""), -1);
            House.due("110 groups by " + gather, new House().start(groups + "1000.", ""), -1);
        }
    }

    // A sum out of bounds gives no row, so there may be more groups than rows; the LIMIT is of rows.
    private static void limitOfRowsNotOfGroups() {
        String head = "n(0). n(X+1):-n(X),X<99. v(600000000000). v(600000000001). ";
        // Of 10000 groups the sums of those with K % 100 = 0 are in bounds; G falls, so that the least groups come last.
        House h = new House();
        String inBounds = "n(X),n(Y),v(V),K=100*X+Y,G=9999-K,W=V/(1+1000000*(1-(K%100+99)/100))";
        House.due("100 rows of 10000 groups", h.start(head + "p(G,sum(W)):-" + inBounds + ".", ""), 100 + 2 + 100);
        House.due("the first", h.x.value(2, 0, 0) * 10000000 + h.x.value(2, 0, 1), 99L * 10000000 + 599999 + 599999);
        House.due("the last", h.x.value(2, 99, 0), 9999);
        for (int i = 0; i < 100; i++) {
            House.due("row " + i, h.x.value(2, i, 0), 99 + 100 * i);
        }
        House.due("one more", h.start(head + "p(G,sum(W)):-" + inBounds + ". p(0,0).", ""), -1);
        House.due("102 rows of 10000 groups", new House().start(head + "p(G,sum(W)):-n(X),n(Y),v(V),K=100*X+Y,G=9999-K,W=V/(1+1000000*(1-(K%99+98)/99)).", ""), -1);
    }

    // The LIMIT is of each predicate, not of all.
    private static void limitOfEachPredicate() {
        House h = new House();
        int all = h.start("input e/1." + repeat("p#(X):-e(X).", 0, 15), rows(0, 100));
        House.due("16 predicates of 100 rows", all, 1600);
        House.due("rows of all", h.x.count(6), 1600);
        House ring = new House();
        all = ring.start("input e/1. a(X):-e(X). a(X):-c(X). b(X):-a(X). c(X):-b(X).", rows(0, 100));
        House.due("a RING of three predicates of 100 rows", all, 400);
    }

    private static void growsWithoutEnd() {
        House h = new House();
        House.due("numbers", h.start("p(0). p(X+1):-p(X).", ""), -1);
        House.due("round about", h.start("p(0). q(X+1):-p(X). p(X):-q(X).", ""), -1);
        House.due("downwards", h.start("p(0). p(Y):-p(X),Y=X-1.", ""), -1);
        House.due("REFUSED", h.x.count(8), 3);
        // It ends at the bounds.
        House.due("twice as much each time", h.start("p(1). p(X*2):-p(X).", ""), 40);
        House.due("the last one", h.x.value(0, 39, 0), 549755813888L);
        // 1, 2, 4 .. 64 stay, 33 greater ones go.
        House.due("round about in a circle", h.start("p(0). p((X+1)%100):-p(X).", ""), 33 + 93);
        House.due("100 rows", h.x.count(6), 100);
        House.due("a circle of 101", h.start("p(0). p((X+1)%101):-p(X).", ""), -1);
    }
}

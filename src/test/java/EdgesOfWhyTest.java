/** Each sentence of "IV. WHY" and of VI's WHY that names an edge. */
public final class EdgesOfWhyTest extends Marks {
    public static void main(String[] args) {
        rankOfAnInput();
        ofTheLineOneIsAt();
        rankAtLeastOne();
        ranksOfARing();
        ranksWithoutChanges();
        ranksOfTwoOwnRows();
        ranksOfAMemberOfTheRing();
        ranksOfOtherRings();
        hundredRanks();
        leastRule();
        leastRuleOfTheRank();
        leastValues();
        valuesByTheOrder();
        headFirst();
        anyIsTheFirstRow();
        anyOfTheOwnRing();
        lowerThanTheRank();
        gatheringRules();
        gatheringAndOthers();
        sumsOutOfBounds();
        withoutAtoms();
        atomsInTheOrderOfTheText();
        reasonNumbers();
        rankNumbers();
        House.end();
    }

    /** RANK, rule and rows of each row of a predicate: 2:1(0,3). */
    private static String why(House h, int p) {
        StringBuilder text = new StringBuilder();
        for (int i = 0; i < h.x.predicate(p, 6); i++) {
            text.append(i == 0 ? "" : " ").append(h.x.rank(p, i)).append(":").append(h.x.reason(p, i, 0)).append("(");
            for (int j = 1; h.x.reason(p, i, j) != NONE; j++) {
                text.append(j == 1 ? "" : ",").append(h.x.reason(p, i, j));
            }
            text.append(")");
        }
        return text.toString();
    }

    private static House of(String program, String changes) {
        House h = new House();
        h.start(program, changes);
        return h;
    }

    // "The RANK of a row: of an INPUT's 0" "what 0 the rule (NONE of an INPUT's)"
    private static void rankOfAnInput() {
        House h = of("input e/1. p(X):-e(X).", "+e(1). +e(2).");
        for (int i = 0; i < 2; i++) {
            House.due("RANK of an INPUT's row", h.x.rank(0, i), 0);
            for (int what = -1; what <= 4; what++) {
                House.due("reason(0, " + i + ", " + what + ")", h.x.reason(0, i, what), NONE);
            }
        }
        House.due("of another one", why(h, 1), "1:0(0) 1:0(1)");
    }

    // RANK and REASON are of the line's FACTS and program, whatever another line did latest.
    private static void ofTheLineOneIsAt() {
        House h = of("input e/1. p(X):-e(X),X>1. p(X):-e(X).", "+e(1). +e(2).");
        h.x.line(1);
        h.start("p(1). q(X):-p(X). p(2).", "");
        House.due("at line 1", why(h, 0), "1:0() 1:2()");
        h.x.line(0);
        House.due("at line 0", why(h, 1), "1:1(0) 1:0(1)");
        h.start("input e/1. p(X):-e(X).", "");
        h.x.back(1);
        House.due("behind back()", why(h, 1), "1:1(0) 1:0(1)");
    }

    // "and at least 1"
    private static void rankAtLeastOne() {
        House.due("without LITERALS", why(of("p(1).", ""), 0), "1:0()");
        House.due("by a SIGN alone", why(of("p(X):-X=1.", ""), 0), "1:0()");
        House.due("by a not alone", why(of("p(1):-not q(1). q(2).", ""), 0), "1:0()");
        House.due("by an INPUT", why(of("input e/1. p(X):-e(X).", "+e(1)."), 1), "1:0(0)");
        House.due("by another RING of RANK 3", why(of("q(1). q(X+1):-q(X),X<3. p(X):-q(X).", ""), 1), "1:2(0) 1:2(1) 1:2(2)");
    }

    // "the least number so that a WAY of some rule gives it in which all rows of its own RING that ATOMS without not are have lower ones"
    private static void ranksOfARing() {
        House h = of("input e/2. up(X,Y):-e(X,Y). up(X,Z):-up(X,Y),e(Y,Z).", "+e(1,2). +e(2,3). +e(3,4).");
        // up: 1,2 1,3 1,4 2,3 2,4 3,4
        House.due("up", why(h, 1), "1:0(0) 2:1(0,1) 3:1(1,2) 1:0(1) 2:1(3,2) 1:0(2)");
        h.round("+e(1,4).");
        House.due("a shorter way", why(h, 1), "1:0(0) 2:1(0,2) 1:0(1) 1:0(2) 2:1(3,3) 1:0(3)");
        h.round("-e(1,4). -e(2,3).");
        House.due("and none", why(h, 1), "1:0(0) 1:0(1)");
    }

    // Rows may be the same as ahead while RANKS are others, those of the first or the last row alone.
    private static void ranksWithoutChanges() {
        House h = of("input f/1. p(5). p(1):-p(5). p(9):-p(5). p(X):-f(X).", "");
        House.due("ahead", why(h, 1), "2:1(1) 1:0() 2:2(1)");
        h.round("+f(1).");
        House.due("the first row", why(h, 1), "1:3(0) 1:0() 2:2(1)");
        h.round("+f(9). -f(1).");
        House.due("the last row, and the first one again", why(h, 1), "2:1(1) 1:0() 1:3(0)");
        h.round("-f(9).");
        House.due("as at first", why(h, 1), "2:1(1) 1:0() 2:2(1)");
    }

    // All rows of its own RING must be lower: the greater one of two counts.
    private static void ranksOfTwoOwnRows() {
        House h = of("p(1). p(2):-p(1). p(3):-p(2),p(1). p(4):-p(1),p(3). p(5):-p(2),p(3),p(4). p(6):-p(1),p(1),p(1).", "");
        House.due("p", why(h, 0), "1:0() 2:1(0) 3:2(1,0) 4:3(0,2) 5:4(1,2,3) 2:5(0,0,0)");
    }

    private static void ranksOfAMemberOfTheRing() {
        House h = of("a(1). b(X):-a(X). c(X):-b(X). a(X):-c(Y),X=Y+1,X<4.", "");
        House.due("a", why(h, 0), "1:0() 4:3(0) 7:3(1)");
        House.due("b", why(h, 1), "2:1(0) 5:1(1) 8:1(2)");
        House.due("c", why(h, 2), "3:2(0) 6:2(1) 9:2(2)");
    }

    private static void ranksOfOtherRings() {
        House h = of("a(1). a(X+1):-a(X),X<5. b(X):-a(X),X>4. b(X-1):-b(X),X>3. c(X):-b(X),not a(9).", "");
        House.due("a", why(h, 0), "1:0() 2:1(0) 3:1(1) 4:1(2) 5:1(3)");
        House.due("b begins again at 1", why(h, 1), "3:3(1) 2:3(2) 1:2(4)");
        House.due("c too", why(h, 2), "1:4(0) 1:4(1) 1:4(2)");
    }

    private static void hundredRanks() {
        House h = of("p(0). p(X+1):-p(X),X<99.", "");
        for (int i = 0; i < 100; i++) {
            House.due("RANK of row " + i, h.x.rank(0, i), i + 1);
            House.due("by row", h.x.reason(0, i, 1), i - 1);
        }
        // 16 predicates in a circle, each a step more.
        StringBuilder text = new StringBuilder("n0(0).");
        for (int i = 0; i < 16; i++) {
            text.append("n").append((i + 1) % 16).append("(X").append(i == 15 ? "+1" : "").append("):-n").append(i).append("(X),X<").append(i == 15 ? "99." : "100.");
        }
        House all = of(text.toString(), "");
        House.due("rows", all.x.count(6), 1600);
        House.due("the last one", all.x.rank(15, 99), 1600);
        House.due("the last one of the first", all.x.rank(0, 99), 1585);
    }

    // "one of the least rule"
    private static void leastRule() {
        House h = of("input e/1. input f/1. p(X):-f(X). p(X):-e(X). p(X):-e(X),f(X).", "+e(1). +e(2). +f(2). +f(3).");
        House.due("p", why(h, 2), "1:1(0) 1:0(0) 1:0(1)");
        House.due("the same rule twice", why(of("p(1). p(1).", ""), 0), "1:0()");
    }

    // "its REASON is the least rule of those that give it at its RANK"
    private static void leastRuleOfTheRank() {
        House h = of("p(2):-p(1). p(3):-p(2). p(3). p(2):-p(4). p(1). p(4).", "");
        House.due("rule 1 gives 3 at RANK 3, rule 2 at 1", why(h, 0), "1:4() 2:0(0) 1:2() 1:5()");
        House g = of("p(X):-q(X),p(_). q(1). p(7). p(1).", "");
        House.due("rule 0 would do at RANK 2", why(g, 0), "1:3() 1:2()");
    }

    // "of these of the least values of the rule's VARIABLES, in the order in which they first stand in it (HEAD first)"
    private static void leastValues() {
        House h = of("input e/2. p(1):-e(X,Y). q(1):-e(Y,X),e(X,Z).", "+e(1,3). +e(2,1). +e(2,2). +e(3,1).");
        House.due("X, then Y", why(h, 1), "1:0(0)");
        // e: 1,3 2,1 2,2 3,1. Y is first, then X, then Z: Y 1, X 3, Z 1.
        House.due("Y, then X, then Z", why(h, 2), "1:1(0,3)");
        House g = of("input e/2. p(1):-e(_,X),e(X,Y).", "+e(1,3). +e(2,1). +e(3,0). +e(3,2).");
        House.due("what is _ is no VARIABLE: X 1", why(g, 1), "1:0(1,0)");
        House s = of("input e/1. p(1):-Y<X,e(X),e(Y).", "+e(1). +e(2). +e(3).");
        House.due("as they stand in a SIGN", why(s, 1), "1:0(1,0)");
        House n = of("input e/1. p(1):-e(X),Y=0-X.", "+e(1). +e(2).");
        House.due("a VARIABLE by = is behind", why(n, 1), "1:0(0)");
        House m = of("input e/1. p(1):-Y=0-X,e(X).", "+e(1). +e(2).");
        House.due("a VARIABLE by = is ahead", why(m, 1), "1:0(1)");
    }

    private static void valuesByTheOrder() {
        House h = of("input e/1. p(1):-e(X),X!=-5.", "+e(a). +e(-5). +e(7). +e(-4).");
        House.due("numbers by size, ahead of words", why(h, 1), "1:0(1)");
        h.round("-e(-4). -e(7).");
        House.due("words then", why(h, 1), "1:0(1)");
    }

    private static void headFirst() {
        // The HEAD has A + B alone; A is the first VARIABLE by it, B the second.
        House h = of("input e/2. p(A+B):-e(B,A).", "+e(1,4). +e(2,3). +e(3,2). +e(5,1). +e(6,1).");
        // 5: A 2 (e(3,2)), A 3, A 4; 6: A 1; 7: A 1.
        House.due("A first", why(h, 1), "1:0(2) 1:0(3) 1:0(4)");
    }

    // "A _ may be any value: the row that is told is the first one that is right"
    private static void anyIsTheFirstRow() {
        House h = of("input e/2. p(X):-e(_,X). q(X):-e(X,_). r(1):-e(_,_). s(X):-e(_,X),e(X,_).", "+e(1,5). +e(2,4). +e(2,5). +e(5,2). +e(5,9).");
        House.due("_ ahead", why(h, 1), "1:0(3) 1:0(1) 1:0(0) 1:0(4)");
        House.due("_ behind", why(h, 2), "1:1(0) 1:1(1) 1:1(3)");
        House.due("both", why(h, 3), "1:2(0)");
        House.due("two ATOMS", why(h, 4), "1:3(3,1) 1:3(0,3)");
    }

    // "(of the own RING: and lower)"
    private static void anyOfTheOwnRing() {
        House h = of("p(5). p(1):-p(_). p(0):-p(1),p(_).", "");
        House.due("not by what is not lower", why(h, 0), "3:2(1,1) 2:1(2) 1:0()");
        House g = of("input e/1. p(X,1):-e(X). p(0,X):-p(_,X). p(X,2):-p(X,_),e(X).", "+e(3). +e(4).");
        // p: 0,1 0,2 3,1 3,2 4,1 4,2
        // Of p(1,_) the first row is p(1,0), at RANK 3: it can't be what p(0,0) at RANK 2 comes by, p(1,5) is.
        House k = of("p(1,5). p(0,0):-p(1,_). p(1,0):-p(0,0).", "");
        House.due("a row that is not lower is passed over", why(k, 0), "2:1(2) 3:2(0) 1:0()");
        House l = of("p(1,5). p(0,0):-p(X,_),X>0. p(1,0):-p(0,0).", "");
        House.due("it hides none that is", why(l, 0), "2:1(2) 3:2(0) 1:0()");
        House.due("each of its RING", why(g, 1), "2:1(2) 3:1(3) 1:0(0) 2:2(2,0) 1:0(1) 2:2(4,1)");
    }

    // "the WAY of a REASON is one whose rows of its own RING can all be lower than the RANK of the row"
    private static void lowerThanTheRank() {
        House h = of("input e/2. p(X):-e(X,X). p(Y):-p(X),e(X,Y).", "+e(5,5). +e(5,3). +e(3,1). +e(5,1). +e(1,2). +e(0,1). +e(1,0).");
        // RANK 1: 5; 2: 3 1; 3: 2 0. Of 1: X 0 is not lower, X 3 neither, X 5 is.
        // e: 0,1 1,0 1,2 3,1 5,1 5,3 5,5   p: 0 1 2 3 5
        House.due("p", why(h, 1), "3:1(1,1) 2:1(4,4) 3:1(1,2) 2:1(4,5) 1:0(6)");
    }

    // "Of a GATHERING rule the RANK is 1 and the REASON the least rule that gives it, without a WAY." "NONE for another what, and of a GATHERING rule"
    private static void gatheringRules() {
        House h = of("input e/2. p(X,count()):-e(X,Y). p(X,sum(Y)):-e(X,Y). p(X,most(Y)):-e(X,Y). p(X,least(Y)):-e(X,Y).", "+e(1,1). +e(2,2). +e(2,5).");
        House.due("rows", h.rows(1), "1,1 2,2 2,5 2,7");
        House.due("p", why(h, 1), "1:0() 1:0() 1:2() 1:1()");
        for (int what = 1; what <= 4; what++) {
            House.due("reason(1, 0, " + what + ")", h.x.reason(1, 0, what), NONE);
        }
        House.due("least of numbers above 0", why(of("p(least(X)):-q(X). q(5). q(7).", ""), 0), "1:0()");
        House.due("most of numbers below 0", why(of("p(most(X)):-q(X). q(-5). q(-7).", ""), 0), "1:0()");
        House.due("of a group without a WAY", why(of("p(sum(X)):-q(X),X>0. p(0). p(count()):-q(X),X>0. q(0).", ""), 0), "1:1()");
        House.due("of words alone", why(of("p(sum(X)):-q(X). p(0). q(a).", ""), 0), "1:1()");
        House deep = of("q(1). q(X+1):-q(X),X<5. p(count()):-q(X).", "");
        House.due("RANK 1 whatever it reads", why(deep, 1), "1:2()");
    }

    // "A row that a GATHERING rule and others give has RANK 1 by it"
    private static void gatheringAndOthers() {
        House h = of("p(X):-p(Y),X=Y+1,X<4. p(1). p(count()):-q(X). p(3):-q(1). q(1). q(2). q(5).", "");
        // Rule 0 gives 2 at RANK 2 and 3 at 3; count() gives 3, as does rule 3, at RANK 1.
        House.due("p", why(h, 0), "1:1() 2:0(0) 1:2()");
        House g = of("p(3):-q(1). p(count()):-q(X). q(1). q(2). q(5).", "");
        House.due("a plain rule that is less", why(g, 0), "1:0(0)");
        House k = of("p(X):-p(X),X=3. p(count()):-q(X). q(1). q(2). q(5).", "");
        House.due("one that gives it at no RANK but by itself", why(k, 0), "1:1()");
    }

    private static void sumsOutOfBounds() {
        House h = of("input q/2. input r/1. p(sum(V)):-q(_,V),r(_). p(Y):-r(Y).", "+q(1,1000000000000). +q(2,10460353203). +r(a).");
        House.due("one step beyond the bound looks like no value", why(h, 2), "1:1(0)");
        h.round("+q(3,999999999999). +q(4,1).");
        House.due("as a long it is the word a", why(h, 2), "1:1(0)");
        h.round("-q(2,10460353203). -q(3,999999999999). -q(4,1).");
        House.due("at the bound it is a row", h.rows(2), "1000000000000 a");
        House.due("and its REASON", why(h, 2), "1:0() 1:1(0)");
    }

    private static void withoutAtoms() {
        House h = of("p(X):-X=1,1<2. q(1):-not p(2),p(1),not p(3).", "");
        House.due("no row of an ATOM", why(h, 0), "1:0()");
        House.due("not ATOMS are left out", why(h, 1), "1:1(0)");
        House.due("reason(1, 0, 2)", h.x.reason(1, 0, 2), NONE);
    }

    // "the j-th ATOM without not (from 0 on, in the order of the text ...)"
    private static void atomsInTheOrderOfTheText() {
        House h = of("input a/1. input b/1. input c/1. p(X):-not a(9),c(X),X<9,b(X),not b(9),a(X).", "+a(0). +a(1). +a(5). +b(4). +b(5). +c(5).");
        House.due("c, b, a", why(h, 3), "1:0(0,1,2)");
    }

    // "NONE for another what" "NoSuchElementException: there is no such row." (reason)
    private static void reasonNumbers() {
        House h = of("input e/1. p(X):-e(X),e(Y),e(X). q(1).", "+e(1). +e(2).");
        House.due("what 0", h.x.reason(1, 1, 0), 0);
        House.due("what 1", h.x.reason(1, 1, 1), 1);
        House.due("what 2", h.x.reason(1, 1, 2), 0);
        House.due("what 3", h.x.reason(1, 1, 3), 1);
        for (int what : new int[] {-1, 4, 5, Integer.MIN_VALUE, Integer.MAX_VALUE}) {
            House.due("what " + what, h.x.reason(1, 1, what), NONE);
        }
        House.due("a rule of no ATOM", h.x.reason(2, 0, 1), NONE);
        int[][] none = {{1, 2}, {1, -1}, {3, 0}, {-1, 0}, {2, 1}, {0, 2}, {Integer.MIN_VALUE, 0}, {Integer.MAX_VALUE, 0}, {1, Integer.MIN_VALUE}, {1, Integer.MAX_VALUE}};
        for (int[] one : none) {
            House.throwsNone("reason(" + one[0] + ", " + one[1] + ", 0)", () -> h.x.reason(one[0], one[1], 0));
            House.throwsNone("reason(" + one[0] + ", " + one[1] + ", 9)", () -> h.x.reason(one[0], one[1], 9));
        }
    }

    private static void rankNumbers() {
        House h = of("input e/1. p(X):-e(X). none(1):-1=2.", "+e(1). +e(2).");
        House.due("rank(1, 1)", h.x.rank(1, 1), 1);
        int[][] none = {{1, 2}, {1, -1}, {2, 0}, {3, 0}, {-1, 0}, {0, 2}, {Integer.MIN_VALUE, 0}, {Integer.MAX_VALUE, 0}, {0, Integer.MIN_VALUE}, {0, Integer.MAX_VALUE}};
        for (int[] one : none) {
            House.throwsNone("rank(" + one[0] + ", " + one[1] + ")", () -> h.x.rank(one[0], one[1]));
        }
    }
}

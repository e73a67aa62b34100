import java.util.ArrayList;
import java.util.List;
import java.util.NoSuchElementException;
import java.util.Random;

/** Random runs of calls, each made both of the class and of the Model; a difference ends a run. */
final class Storm {
    interface Call {
        long answer();
    }

    static final class Difference extends RuntimeException {
        private static final long serialVersionUID = 1L;

        Difference(String text) {
            super(text);
        }
    }

    static final long THROWS = Long.MIN_VALUE;

    private final Random random;
    private final House house = new House();
    private final Model model = new Model();
    private final List<String> log = new ArrayList<>();
    /** How the predicates of the program generated latest look: name and width. */
    private List<String> names = new ArrayList<>();
    private List<Integer> widths = new ArrayList<>();
    private int inputs;

    Storm(long seed) {
        random = new Random(seed);
    }

    /** null if all answers were the same, else what was done and what differed. */
    static String run(long seed, int calls, boolean wild) {
        Storm storm = new Storm(seed);
        try {
            for (int i = 0; i < calls; i++) {
                storm.step(wild);
            }
            storm.compareAll();
            return null;
        } catch (Difference e) {
            return "seed " + seed + ": " + e.getMessage() + "\n  " + String.join("\n  ", storm.log);
        } catch (RuntimeException e) {
            e.printStackTrace();
            return "seed " + seed + ": " + e + "\n  " + String.join("\n  ", storm.log);
        }
    }

    private int pick(int n) {
        return random.nextInt(n);
    }

    private boolean chance(int percent) {
        return pick(100) < percent;
    }

    @SafeVarargs
    private final <T> T of(T... all) {
        return all[pick(all.length)];
    }

    private static long answerOf(Call call) {
        try {
            return call.answer();
        } catch (NoSuchElementException e) {
            return THROWS;
        }
    }

    private long same(String what, Call ofClass, Call ofModel) {
        long a = answerOf(ofClass);
        long b = answerOf(ofModel);
        if (a != b) {
            throw new Difference(what + " answered " + a + ", the model " + b);
        }
        return a;
    }

    private long told(String what, String text, Call ofClass, Call ofModel) {
        house.feed(text);
        model.feed(text);
        long a = same(what + " " + text, ofClass, ofModel);
        log.add(what + " " + text.replace("\n", "\\n") + " -> " + a);
        same("place()", house.x::place, () -> model.faultPlace);
        return a;
    }

    private long called(String what, Call ofClass, Call ofModel) {
        long a = same(what, ofClass, ofModel);
        log.add(what + " -> " + a);
        return a;
    }

    // ---- texts

    private String word() {
        return of("a", "b", "c", "ab", "abc", "zzzzzzzz");
    }

    private String number() {
        if (chance(4)) {
            return of("1000000000000", "-1000000000000", "999999999999", "1000000", "500000000000", "-7");
        }
        return Integer.toString(pick(5) - (chance(20) ? 3 : 0));
    }

    private String constant() {
        return chance(70) ? number() : word();
    }

    private String variable() {
        return of("X", "Y", "Z", "X", "Y", "W", "V");
    }

    private String expression(int depth) {
        int kind = pick(10);
        if (kind < 5 || depth == 0) {
            return chance(75) ? variable() : constant();
        }
        if (kind < 7) {
            return "(" + expression(depth - 1) + ")";
        }
        return expression(depth - 1) + of("+", " - ", "*", "/", "%", "+", "-") + expression(depth - 1);
    }

    private String atom(int p) {
        StringBuilder text = new StringBuilder(names.get(p) + "(");
        for (int c = 0; c < widths.get(p); c++) {
            text.append(c == 0 ? "" : ",").append(chance(65) ? variable() : chance(60) ? "_" : constant());
        }
        return text + ")";
    }

    private String literal(int most) {
        int kind = pick(10);
        if (kind < 5) {
            return atom(pick(most));
        }
        if (kind < 6) {
            return "not " + atom(pick(most));
        }
        if (kind < 8) {
            return of("X", "Y", "Z", "(W)", "V") + of(" = ", "=") + expression(2);
        }
        return expression(1) + of("=", "!=", "<", "<=", ">", ">=", " < ") + expression(1);
    }

    private String literals(int most) {
        StringBuilder text = new StringBuilder();
        int n = 1 + pick(3) + pick(2);
        int atoms = 0;
        for (int i = 0; i < n; i++) {
            String literal = i == 0 && chance(80) ? atom(pick(most)) : literal(most);
            atoms += literal.matches("[a-z].*\\(.*") && !literal.startsWith("not ") ? 1 : 0;
            text.append(i == 0 ? "" : chance(50) ? ", " : ",").append(literal);
        }
        return text.toString();
    }

    private String head(int p) {
        StringBuilder text = new StringBuilder(names.get(p) + "(");
        int gather = chance(20) ? pick(widths.get(p)) : -1;
        for (int c = 0; c < widths.get(p); c++) {
            String item = c == gather ? of("count()", "sum(" + variable() + ")", "least(" + variable() + ")", "most(" + variable() + ")")
                : chance(75) ? variable() : expression(1);
            text.append(c == 0 ? "" : ",").append(item);
        }
        return text + ")";
    }

    /** Programs that do much: rings, growth up to a bound or without one, gathering. */
    private String known() {
        return of(
            "input e/2. input bar/1. output way. way(X,Y) :- e(X,Y), not bar(Y). way(X,Z) :- way(X,Y), e(Y,Z), not bar(Z)."
                + " far(X,count()) :- way(X,Y). far(X,0) :- e(_,X), not way(X,_).",
            "input e/2 key 1. output up. up(X,Y) :- e(X,Y). up(X,Z) :- up(X,Y), up(Y,Z). both(X) :- up(X,X). top(most(X)) :- up(X,_).",
            "input n/1. output g. g(X) :- n(X). g(Y) :- g(X), Y = X + 1, Y < " + of("5", "20", "100", "101", "200") + ". c(count(), 1) :- g(X), g(Y).",
            "input e/2. even(X) :- s(X). odd(Y) :- even(X), e(X,Y). even(Y) :- odd(X), e(X,Y). s(1). s(X) :- e(_,X), not e(X,_). output odd. output even.",
            "input p/3 key 2. output best. best(S,least(P)) :- p(S,_,P). dear(S,I) :- p(S,I,P), best(S,Q), P > 2 * Q. all(sum(P)) :- p(_,_,P).",
            "input a/2 key 1. input b/4 key 2. input c/1. t(X,Y) :- a(X,Y). t(X,Y) :- b(X,Y,_,_). t(Y,X) :- t(X,Y), c(X). output t. output a."
                + " w(X,Y,sum(Z)) :- b(X,_,Y,Z). w(X,X,0) :- c(X).",
            "input e/2. d(X,0) :- e(X,_). d(Y,N+1) :- d(X,N), e(X,Y), N < " + of("3", "9", "1000000") + ". m(X,least(N)) :- d(X,N). output m.",
            "input x/1. q(X*X) :- x(X). q(X*Y) :- q(X), q(Y), X != Y. r(X/Y) :- q(X), x(Y). r(X%Y) :- x(X), x(Y). output r.",
            // The numbers of big sum up to what the word a is as a long.
            "input out/1. input w/1. output p. big(1,1000000000000). big(2,1000000000000). big(3,10460353203). big(4,a)."
                + " p(sum(V)) :- big(X,V), not out(X). p(Y) :- w(Y). p(count()) :- w(X), big(_,X). p(most(V)) :- big(X,V), out(X).",
            "input e/2. a(X,Y) :- e(X,Y). b(X) :- a(X,_). a(X,Z) :- b(X), c(Z). c(Z) :- a(_,Z), Z != 3. c(Z) :- b(Z). a(1,count()) :- e(_,_). output a.");
    }

    /** Texts are made for the program that they are read by. */
    private void look() {
        Model.Prog prog = model.at().edition != null ? model.at().edition : model.at().now().prog;
        if (prog.names.isEmpty() || chance(1)) {
            return;
        }
        names = new ArrayList<>();
        widths = new ArrayList<>();
        for (String name : prog.names) {
            int at = prog.inputs.contains(name) ? 0 : names.size();
            names.add(at, name);
            widths.add(at, prog.width.get(name));
        }
        inputs = prog.inputs.size();
    }

    private String program() {
        if (chance(50)) {
            return known();
        }
        names = new ArrayList<>();
        widths = new ArrayList<>();
        StringBuilder text = new StringBuilder();
        inputs = 1 + pick(3);
        int all = inputs + 1 + pick(5);
        for (int p = 0; p < all; p++) {
            names.add(of("e", "f", "g", "h", "way", "far", "big_one", "p", "q", "r") + (p < inputs || chance(30) ? p : ""));
            widths.add(1 + pick(chance(20) ? 4 : 2));
            if (names.subList(0, p).contains(names.get(p))) {
                names.set(p, "n" + p);
            }
        }
        List<String> statements = new ArrayList<>();
        for (int p = 0; p < inputs; p++) {
            boolean key = widths.get(p) > 1 && chance(50);
            statements.add("input " + names.get(p) + "/" + widths.get(p) + (key ? " key " + (1 + pick(widths.get(p) - 1)) : "") + ".");
        }
        for (int p = 0; p < all; p++) {
            if (chance(40)) {
                statements.add("output " + names.get(p) + ".");
            }
        }
        for (int p = inputs; p < all; p++) {
            int n = 1 + pick(2);
            for (int i = 0; i < n; i++) {
                // Mostly of what stands ahead, so that rings are the exception.
                int most = chance(75) ? p : chance(70) ? p + 1 : all;
                statements.add(rule(p, most));
            }
        }
        if (chance(30)) {
            java.util.Collections.shuffle(statements, random);
        }
        for (String s : statements) {
            text.append(s).append(of("", " ", "\n", "# so\n"));
        }
        return text.toString();
    }

    private String rule(int p, int most) {
        if (chance(8)) {
            StringBuilder text = new StringBuilder(names.get(p) + "(");
            for (int c = 0; c < widths.get(p); c++) {
                text.append(c == 0 ? "" : ",").append(chance(90) ? constant() : "1+1");
            }
            return text + ").";
        }
        for (int tries = 0; tries < 30; tries++) {
            String text = head(p) + " :- " + literals(most) + ".";
            try {
                Model.Parser parser = model.new Parser(text);
                parser.prog = new Model.Prog();
                Model.Prog read = parser.program();
                if (read.rules.get(0).unsafe() == Model.NONE || tries == 0 && chance(1)) {
                    return text;
                }
            } catch (Model.Wrong e) {
                // too many ATOMS: another one
            }
        }
        return names.get(p) + "(" + "1" + ",1".repeat(widths.get(p) - 1) + ").";
    }

    private String changes() {
        StringBuilder text = new StringBuilder();
        int n = pick(6) + (chance(10) ? 20 : 0);
        for (int i = 0; i < n; i++) {
            int p = chance(99) ? pick(Math.max(1, inputs)) : pick(names.size() + 1);
            String name = p < names.size() ? names.get(p) : "nobody";
            int width = p < names.size() && chance(99) ? widths.get(p) : 1 + pick(4);
            text.append(chance(70) ? "+" : "-").append(name).append("(");
            for (int c = 0; c < width; c++) {
                text.append(c == 0 ? "" : ",").append(constant());
            }
            text.append(").").append(of("", " "));
        }
        return text.toString();
    }

    private String cellName() {
        return chance(90) ? of("A", "B", "C") + (1 + pick(3)) : of("A", "F", "E") + (1 + pick(12));
    }

    private String formula(int depth) {
        int kind = pick(20);
        if (kind < 5 || depth == 0) {
            return cellName();
        }
        if (kind < 8) {
            return chance(80) ? number() : word();
        }
        if (kind < 12) {
            return formula(depth - 1) + of("+", "-", "*", "/", "%") + formula(depth - 1);
        }
        if (kind < 13) {
            return "(" + formula(depth - 1) + ")";
        }
        if (kind < 15) {
            return of("sum", "count") + "(" + of("A1:B2", "A1:A3", "B1:C3", "A1:F12", "C2:C2", "B2:B1") + ")";
        }
        if (kind < 18) {
            String name = names.isEmpty() || chance(10) ? "nobody" : names.get(pick(names.size()));
            return chance(30) ? "count(" + name + ")" : of("sum", "least", "most") + "(" + name + "," + (1 + pick(2)) + ")";
        }
        return "if(" + formula(depth - 1) + "," + formula(depth - 1) + "," + formula(depth - 1) + ")";
    }

    /** A text with some bytes gone, come or exchanged. */
    private String spoiled(String text) {
        StringBuilder s = new StringBuilder(text);
        int n = 1 + pick(3);
        for (int i = 0; i < n; i++) {
            int at = pick(s.length() + 1);
            String piece = of("(", ")", ",", ".", "/", ":", "+", "-", "*", "%", "=", "<", ">", ":-", "!=", "!", "<=", ">=", "_", "X", "Abcdefghi", "Abcdefgh",
                "x", "abcdefghi", "abcdefghijklm", "abcdefghijkl", "0", "1", "01", "1000000000001", "1000000000000", "-1", "not ", "input ", "output ", "key ", "count",
                "sum", "least(", "most", "if", "if(", " ", "\t", "\r", "\n", "#", "\u0000", "\u00ff", "A1", "F12", "G1", "A13", "A01", "((", "))", "5", "a1", "a_b");
            if (chance(40)) {
                s.insert(at, piece);
            } else if (at < s.length()) {
                if (chance(50)) {
                    s.deleteCharAt(at);
                } else {
                    s.replace(at, Math.min(s.length(), at + 1 + pick(3)), piece);
                }
            }
        }
        return s.toString();
    }

    private String text(String right, boolean wild) {
        String text = chance(wild ? 70 : 3) ? spoiled(right) : right;
        return text.length() > 3000 ? "" : text;
    }

    // ---- calls

    private void step(boolean wild) {
        ChangeHouse x = house.x;
        int kind = pick(100);
        look();
        if (log.isEmpty() || kind < (wild ? 30 : 5)) {
            told("program", text(program(), wild), x::program, model::program);
            look();
            if (chance(70)) {
                told("change", text(changes(), wild), x::change, model::change);
                called("round", x::round, model::round);
            }
        } else if (kind < 35) {
            told("change", text(changes(), wild), x::change, model::change);
            if (chance(70)) {
                called("round", x::round, model::round);
                compareAll();
            }
        } else if (kind < 45) {
            String right = cellName() + "=" + (chance(10) ? "" : formula(3));
            told("cell", text(right, wild), x::cell, model::cell);
        } else if (kind < 60) {
            called("round", x::round, model::round);
            compareAll();
        } else if (kind < 75) {
            if (!names.isEmpty()) {
                told("query", text(literals(names.size()) + ".", wild), x::query, model::query);
            }
            int i = pick(5) - 1;
            int v = pick(4) - 1;
            same("answer", () -> x.answer(i, v), () -> model.answer(i, v));
        } else if (kind < 80) {
            sideBySide(wild);
        } else if (kind < 82) {
            called("forget", x::forget, model::forget);
        } else {
            travel();
            compareAll();
        }
    }

    /** A branch, rounds at both lines, and a merge. */
    private void sideBySide(boolean wild) {
        ChangeHouse x = house.x;
        int home = model.here;
        int k = (home + 1 + pick(3)) % 4;
        int round = model.at().past.size() - 1 - (chance(20) ? 1 : 0);
        called("branch " + k + " " + round, () -> x.branch(k, round), () -> model.branch(k, round));
        for (int i = 0; i < 2 + pick(3); i++) {
            int to = i % 2 == 0 ? k : home;
            called("line " + to, () -> x.line(to), () -> model.line(to));
            told("change", text(changes(), wild), x::change, model::change);
            if (chance(90)) {
                called("round", x::round, model::round);
            }
            if (chance(10)) {
                int r = model.at().past.size() - 1 - pick(3);
                called("back " + r, () -> x.back(r), () -> model.back(r));
            }
        }
        called("line " + home, () -> x.line(home), () -> model.line(home));
        if (chance(10)) {
            told("program", text(program(), wild), x::program, model::program);
        }
        called("merge " + k, () -> x.merge(k), () -> model.merge(k));
        called("round", x::round, model::round);
        compareAll();
        called("merge " + k, () -> x.merge(k), () -> model.merge(k));
    }

    private void travel() {
        ChangeHouse x = house.x;
        int rounds = model.at().past.size() - 1;
        int round = chance(90) ? rounds - pick(Math.min(rounds + 1, 4)) : pick(rounds + 3) - 1;
        int k = pick(chance(95) ? 3 : 6) - (chance(3) ? 1 : 0);
        switch (pick(5)) {
            case 0:
                if (chance(40)) {
                    called("back " + round, () -> x.back(round), () -> model.back(round));
                }
                break;
            case 1:
                called("branch " + k + " " + round, () -> x.branch(k, round), () -> model.branch(k, round));
                break;
            case 2:
                called("line " + k, () -> x.line(k), () -> model.line(k));
                break;
            default:
                for (int other = 0; other < 4; other++) {
                    int from = other;
                    if (chance(60)) {
                        called("merge " + from, () -> x.merge(from), () -> model.merge(from));
                    }
                }
                for (int what = -1; what < 5; what++) {
                    int w = what;
                    same("met " + w, () -> x.met(w), () -> model.met(w));
                }
                break;
        }
    }

    private void compareAll() {
        ChangeHouse x = house.x;
        for (int what = 0; what < 10; what++) {
            int w = what;
            same("count " + w, () -> x.count(w), () -> model.count(w));
        }
        int predicates = model.count(2);
        for (int p = 0; p < predicates; p++) {
            int q = p;
            for (int what = -1; what < 9; what++) {
                int w = what;
                same("predicate " + q + " " + w, () -> x.predicate(q, w), () -> model.predicate(q, w));
            }
            int rows = model.predicate(p, 6);
            int i = 0;
            for (List<Long> row : model.at().now().facts.get(model.at().now().prog.names.get(p))) {
                for (int c = 0; c < row.size(); c++) {
                    long got = x.value(q, i, c);
                    if (got != row.get(c)) {
                        throw new Difference("value " + q + " " + i + " " + c + " answered " + got + ", the model " + row.get(c));
                    }
                }
                i++;
            }
            if (rows > 0 && chance(50)) {
                int j = pick(rows);
                same("rank " + q + " " + j, () -> x.rank(q, j), () -> model.rank(q, j));
                for (int what = -1; what < 5; what++) {
                    int w = what;
                    same("reason " + q + " " + j + " " + w, () -> x.reason(q, j, w), () -> model.reason(q, j, w));
                }
            }
        }
        compareEdits();
        comparePast();
        for (int c = 0; c < 72; c++) {
            int column = c % 6;
            int row = c / 6;
            for (int what = 0; what < 3; what++) {
                int w = what;
                same("sheet " + column + " " + row + " " + w, () -> x.sheet(column, row, w), () -> model.sheet(column, row, w));
            }
        }
    }

    private void compareEdits() {
        ChangeHouse x = house.x;
        int edits = (int) same("edits", x::edits, model::edits);
        for (int n = 0; n < 3; n++) {
            int i = pick(edits + 2) - (chance(10) ? 1 : 0);
            for (int what = -1; what < 7; what++) {
                int w = what;
                same("edit " + i + " " + w, () -> x.edit(i, w), () -> model.edit(i, w));
            }
        }
    }

    private void comparePast() {
        ChangeHouse x = house.x;
        for (int n = 0; n < 3; n++) {
            int round = pick(model.at().past.size() + 2) - 1;
            for (int p = -1; p < 7; p++) {
                int q = p;
                int rows = (int) same("past " + round + " " + q, () -> x.past(round, q), () -> model.past(round, q));
                int i = pick(Math.max(1, rows)) + (chance(5) ? 1 : 0);
                int c = pick(3) - (chance(5) ? 1 : 0);
                same("pastValue " + round + " " + q + " " + i + " " + c, () -> x.pastValue(round, q, i, c), () -> model.pastValue(round, q, i, c));
            }
        }
    }
}

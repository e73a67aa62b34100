import java.util.ArrayList;
import java.util.Arrays;
import java.util.Collections;
import java.util.Comparator;
import java.util.HashMap;
import java.util.HashSet;
import java.util.List;
import java.util.Map;
import java.util.NoSuchElementException;
import java.util.Objects;
import java.util.Set;
import java.util.TreeMap;
import java.util.TreeSet;
import java.util.regex.Matcher;
import java.util.regex.Pattern;

/**
 * The document read once more, as plainly as can be and as slowly as may be: every round makes all rows
 * anew, the past is kept whole, WAYS are all tried. The class is compared with it.
 */
final class Model {
    static final int NONE = -1;
    static final long BOUND = 1_000_000_000_000L;
    static final Comparator<List<Long>> ORDER = (a, b) -> {
        for (int i = 0; i < Math.min(a.size(), b.size()); i++) {
            int c = Long.compare(a.get(i), b.get(i));
            if (c != 0) {
                return c;
            }
        }
        return Integer.compare(a.size(), b.size());
    };

    static final class Wrong extends RuntimeException {
        private static final long serialVersionUID = 1L;
        final int place;

        Wrong(int place) {
            super(null, null, false, false);
            this.place = place;
        }
    }

    static final class Refused extends RuntimeException {
        private static final long serialVersionUID = 1L;
    }

    // ---- texts

    record Token(char kind, String text, int start, int end) {
        boolean is(String sign) {
            return kind == 's' && text.equals(sign);
        }

        boolean word(String word) {
            return kind == 'n' && text.equals(word);
        }
    }

    static final Set<String> RESERVED = Set.of("input", "output", "key", "not", "count", "sum", "least", "most");
    static final Pattern TOKEN = Pattern.compile(
        "(?<n>[a-z][a-z0-9_]*)|(?<v>[A-Z][A-Za-z0-9]*)|(?<d>0|[1-9][0-9]*)|(?<s>:-|!=|<=|>=|[(),./:+\\-*%=<>_])");

    static List<Token> tokens(String text) {
        List<Token> all = new ArrayList<>();
        int at = 0;
        while (at < text.length()) {
            char c = text.charAt(at);
            if (c == 9 || c == 10 || c == 13 || c == 32) {
                at++;
                continue;
            }
            if (c == '#') {
                while (at < text.length() && text.charAt(at) != 10) {
                    at++;
                }
                continue;
            }
            Matcher m = TOKEN.matcher(text).region(at, text.length());
            if (!m.lookingAt()) {
                all.add(new Token('!', "", at, at + 1));
                at++;
                continue;
            }
            char kind = m.group("n") != null ? 'n' : m.group("v") != null ? 'v' : m.group("d") != null ? 'd' : 's';
            all.add(new Token(kind, m.group(), at, m.end()));
            at = m.end();
        }
        all.add(new Token('e', "", text.length(), text.length()));
        return all;
    }

    interface Expr {
        /** null: no value. */
        Long value(Long[] env);

        void variables(Set<Integer> into);
    }

    record Val(long v) implements Expr {
        public Long value(Long[] env) {
            return v;
        }

        public void variables(Set<Integer> into) {
        }
    }

    record Var(int i) implements Expr {
        public Long value(Long[] env) {
            return env[i];
        }

        public void variables(Set<Integer> into) {
            into.add(i);
        }
    }

    record Two(String op, Expr a, Expr b) implements Expr {
        public Long value(Long[] env) {
            Long x = a.value(env);
            Long y = b.value(env);
            if (x == null || y == null || x > BOUND || y > BOUND) {
                return null;
            }
            return calc(op, x, y);
        }

        public void variables(Set<Integer> into) {
            a.variables(into);
            b.variables(into);
        }
    }

    static Long calc(String op, long x, long y) {
        java.math.BigInteger p = java.math.BigInteger.valueOf(x);
        java.math.BigInteger q = java.math.BigInteger.valueOf(y);
        if (y == 0 && (op.equals("/") || op.equals("%"))) {
            return null;
        }
        java.math.BigInteger r = switch (op) {
            case "+" -> p.add(q);
            case "-" -> p.subtract(q);
            case "*" -> p.multiply(q);
            case "/" -> p.divide(q);
            default -> p.remainder(q);
        };
        return r.abs().compareTo(java.math.BigInteger.valueOf(BOUND)) > 0 ? null : r.longValue();
    }

    /** An ATOM's TERM: a VARIABLE, a value, or (both missing) any. */
    record Term(int variable, Long value) {
        boolean any() {
            return variable < 0 && value == null;
        }
    }

    static final class Lit {
        String kind; // "atom", "not" or the SIGN
        String name;
        int place;
        List<Term> terms = new ArrayList<>();
        Expr left;
        Expr right;

        boolean atom() {
            return kind.equals("atom") || kind.equals("not");
        }
    }

    static final class RuleM {
        String head;
        int place;
        List<Expr> items = new ArrayList<>(); // null where it gathers
        int gather = -1;
        String how;
        int gatherVar = -1;
        List<String> vars = new ArrayList<>();
        List<Integer> varPlaces = new ArrayList<>();
        List<Lit> body = new ArrayList<>();

        Set<Integer> bound() {
            Set<Integer> bound = new HashSet<>();
            for (Lit l : body) {
                if (l.kind.equals("atom")) {
                    l.terms.forEach(t -> bound.add(t.variable()));
                }
            }
            boolean more = true;
            while (more) {
                more = false;
                for (Lit l : body) {
                    if (l.kind.equals("=")) {
                        more |= binds(l.left, l.right, bound) | binds(l.right, l.left, bound);
                    }
                }
            }
            return bound;
        }

        static boolean binds(Expr lone, Expr other, Set<Integer> bound) {
            Set<Integer> all = new HashSet<>();
            other.variables(all);
            return lone instanceof Var v && bound.containsAll(all) && bound.add(v.i());
        }

        int unsafe() {
            Set<Integer> bound = bound();
            for (int i = 0; i < vars.size(); i++) {
                if (!bound.contains(i)) {
                    return varPlaces.get(i);
                }
            }
            return NONE;
        }
    }

    record Mention(String kind, String name, int place, int n) {
    }

    static final class Prog {
        List<String> names = new ArrayList<>();
        Map<String, Integer> width = new HashMap<>();
        Map<String, Integer> keys = new HashMap<>();
        Set<String> inputs = new HashSet<>();
        Set<String> outputs = new HashSet<>();
        Set<String> heads = new HashSet<>();
        List<RuleM> rules = new ArrayList<>();
        List<Mention> mentions = new ArrayList<>();

        Set<String> reads(String name) {
            Set<String> all = new TreeSet<>();
            for (RuleM r : rules) {
                if (r.head.equals(name)) {
                    for (Lit l : r.body) {
                        if (l.atom()) {
                            all.add(l.name);
                        }
                    }
                }
            }
            return all;
        }

        Set<String> reach(String name) {
            Set<String> seen = new HashSet<>();
            List<String> todo = new ArrayList<>(reads(name));
            while (!todo.isEmpty()) {
                String n = todo.remove(todo.size() - 1);
                if (seen.add(n)) {
                    todo.addAll(reads(n));
                }
            }
            return seen;
        }

        Set<String> ring(String name) {
            Set<String> all = new HashSet<>(Set.of(name));
            for (String other : names) {
                if (reach(name).contains(other) && reach(other).contains(name)) {
                    all.add(other);
                }
            }
            return all;
        }

        int ringNumber(String name) {
            return ring(name).stream().mapToInt(names::indexOf).min().getAsInt();
        }
    }

    final class Parser {
        final List<Token> tokens;
        int at = 0;
        Prog prog; // the one that is read, or null
        RuleM rule;

        Parser(String text) {
            tokens = tokens(text);
        }

        Token t() {
            return tokens.get(at);
        }

        Token next() {
            return tokens.get(at++);
        }

        Wrong wrong() {
            return new Wrong(t().start());
        }

        void sign(String sign) {
            if (!t().is(sign)) {
                throw wrong();
            }
            at++;
        }

        String name() {
            if (t().kind() != 'n' || RESERVED.contains(t().text())) {
                throw wrong();
            }
            if (t().text().length() > 12) {
                throw new Wrong(t().start() + 12);
            }
            return next().text();
        }

        String predicate() {
            int start = t().start();
            String name = name();
            if (prog != null && !prog.names.contains(name)) {
                if (prog.names.size() == 16) {
                    throw new Wrong(start);
                }
                prog.names.add(name);
            }
            return name;
        }

        int number(int least, int most) {
            if (t().kind() != 'd' || t().text().length() > 9) {
                throw wrong();
            }
            int n = Integer.parseInt(t().text());
            if (n < least || n > most) {
                throw wrong();
            }
            at++;
            return n;
        }

        long value() {
            Token a = t();
            if (a.kind() == 'n') {
                if (RESERVED.contains(a.text()) || !a.text().matches("[a-z]{1,8}")) {
                    throw wrong();
                }
                at++;
                return House.value(a.text());
            }
            boolean minus = false;
            if (a.is("-")) {
                Token b = tokens.get(at + 1);
                boolean digit = b.start() == a.end() && (b.kind() == 'd' || b.kind() == '6');
                if (!digit) {
                    throw wrong();
                }
                minus = true;
                at++;
            }
            if (t().kind() != 'd') {
                throw wrong();
            }
            if (t().text().length() > 13 || Long.parseLong(t().text()) > BOUND) {
                throw wrong();
            }
            long v = Long.parseLong(next().text());
            return minus ? -v : v;
        }

        int variable() {
            if (t().kind() != 'v') {
                throw wrong();
            }
            if (t().text().length() > 8) {
                throw new Wrong(t().start() + 8);
            }
            int i = rule.vars.indexOf(t().text());
            if (i < 0) {
                if (rule.vars.size() == 8) {
                    throw wrong();
                }
                i = rule.vars.size();
                rule.vars.add(t().text());
                rule.varPlaces.add(t().start());
            }
            at++;
            return i;
        }

        Expr expr(int depth) {
            Expr a = product(depth);
            while (t().is("+") || t().is("-")) {
                String op = next().text();
                a = new Two(op, a, product(depth));
            }
            return a;
        }

        Expr product(int depth) {
            Expr a = unit(depth);
            while (t().is("*") || t().is("/") || t().is("%")) {
                String op = next().text();
                a = new Two(op, a, unit(depth));
            }
            return a;
        }

        Expr unit(int depth) {
            if (t().is("(")) {
                if (depth == 4) {
                    throw wrong();
                }
                at++;
                Expr a = expr(depth + 1);
                sign(")");
                return a;
            }
            return t().kind() == 'v' ? new Var(variable()) : new Val(value());
        }

        void atom(Lit lit, String kind) {
            lit.kind = kind;
            lit.place = t().start();
            lit.name = predicate();
            sign("(");
            while (true) {
                if (t().kind() == 'v') {
                    lit.terms.add(new Term(variable(), null));
                } else if (t().is("_")) {
                    at++;
                    lit.terms.add(new Term(-1, null));
                } else {
                    lit.terms.add(new Term(-1, value()));
                }
                if (lit.terms.size() < 4 && t().is(",")) {
                    at++;
                } else {
                    break;
                }
            }
            sign(")");
            mention("atom", lit.name, lit.place, lit.terms.size());
        }

        void mention(String kind, String name, int place, int n) {
            if (prog != null) {
                prog.mentions.add(new Mention(kind, name, place, n));
                if (n > 0) {
                    prog.width.putIfAbsent(name, n);
                }
            }
        }

        void literal() {
            if (rule.body.size() == 8) {
                throw wrong();
            }
            Lit lit = new Lit();
            Token first = t();
            if (first.word("not")) {
                at++;
                atom(lit, "not");
            } else if (first.kind() == 'n' && !RESERVED.contains(first.text()) && nameIsAtom(first)) {
                if (rule.body.stream().filter(l -> l.kind.equals("atom")).count() == 3) {
                    throw wrong();
                }
                atom(lit, "atom");
            } else {
                lit.left = expr(0);
                if (!(t().kind() == 's' && Set.of("=", "!=", "<", "<=", ">", ">=").contains(t().text()))) {
                    throw wrong();
                }
                lit.kind = next().text();
                lit.right = expr(0);
            }
            rule.body.add(lit);
        }

        boolean nameIsAtom(Token first) {
            if (first.text().length() > 12) {
                throw new Wrong(first.start() + 12);
            }
            Token behind = tokens.get(at + 1);
            if (behind.is("(")) {
                return true;
            }
            if (!first.text().matches("[a-z]{1,8}")) {
                throw new Wrong(behind.start());
            }
            return false;
        }

        void literals() {
            literal();
            while (t().is(",")) {
                at++;
                literal();
            }
        }

        Prog program() {
            prog = new Prog();
            while (t().kind() != 'e') {
                if (t().word("input")) {
                    at++;
                    int place = t().start();
                    String name = predicate();
                    sign("/");
                    int n = number(1, 4);
                    int k = 0;
                    if (t().word("key")) {
                        at++;
                        k = number(1, n - 1);
                    }
                    sign(".");
                    mention("input", name, place, n);
                    prog.inputs.add(name);
                    prog.keys.put(name, k);
                } else if (t().word("output")) {
                    at++;
                    int place = t().start();
                    String name = predicate();
                    sign(".");
                    mention("output", name, place, 0);
                    prog.outputs.add(name);
                } else {
                    if (prog.rules.size() == 24) {
                        throw wrong();
                    }
                    head();
                    if (t().is(":-")) {
                        at++;
                        literals();
                    }
                    sign(".");
                    prog.rules.add(rule);
                }
            }
            return prog;
        }

        void head() {
            rule = new RuleM();
            rule.place = t().start();
            rule.head = predicate();
            sign("(");
            while (true) {
                Token a = t();
                if (a.word("count") || a.word("sum") || a.word("least") || a.word("most")) {
                    if (rule.gather >= 0) {
                        throw wrong();
                    }
                    at++;
                    rule.gather = rule.items.size();
                    rule.how = a.text();
                    sign("(");
                    if (!a.word("count")) {
                        rule.gatherVar = variable();
                    }
                    sign(")");
                    rule.items.add(null);
                } else {
                    rule.items.add(expr(0));
                }
                if (rule.items.size() < 4 && t().is(",")) {
                    at++;
                } else {
                    break;
                }
            }
            sign(")");
            mention("head", rule.head, rule.place, rule.items.size());
            prog.heads.add(rule.head);
        }

        RuleM query() {
            rule = new RuleM();
            literals();
            sign(".");
            if (t().kind() != 'e') {
                throw wrong();
            }
            return rule;
        }

        List<Change> changes() {
            List<Change> all = new ArrayList<>();
            while (t().kind() != 'e') {
                Change c = new Change();
                if (!t().is("+") && !t().is("-")) {
                    throw wrong();
                }
                c.plus = next().is("+");
                c.place = t().start();
                c.name = name();
                sign("(");
                c.row.add(value());
                while (c.row.size() < 4 && t().is(",")) {
                    at++;
                    c.row.add(value());
                }
                sign(")");
                sign(".");
                all.add(c);
            }
            return all;
        }

        int cellName() {
            if (t().kind() != 'v' || !t().text().matches("[A-F]([1-9]|1[0-2])")) {
                throw wrong();
            }
            String text = next().text();
            return text.charAt(0) - 'A' + 6 * (Integer.parseInt(text.substring(1)) - 1);
        }

        CellText cellText() {
            CellText told = new CellText();
            told.cell = cellName();
            sign("=");
            if (tokens.size() - 1 > at + 60) {
                Token a = tokens.get(at + 60);
                // '6': the 61st, which can't stand, though a digit it still is
                tokens.set(at + 60, new Token(a.kind() == 'd' ? '6' : '!', "", a.start(), a.end()));
            }
            if (t().kind() != 'e') {
                told.formula = sum(0);
                if (t().kind() != 'e') {
                    throw wrong();
                }
            }
            return told;
        }

        Node sum(int depth) {
            Node a = times(depth);
            while (t().is("+") || t().is("-")) {
                String op = next().text();
                a = new Node(op, List.of(a, times(depth)));
            }
            return a;
        }

        Node times(int depth) {
            Node a = part(depth);
            while (t().is("*") || t().is("/") || t().is("%")) {
                String op = next().text();
                a = new Node(op, List.of(a, part(depth)));
            }
            return a;
        }

        void open(int depth) {
            if (depth == 4) {
                throw wrong();
            }
            sign("(");
        }

        Node part(int depth) {
            Token a = t();
            if (a.is("(")) {
                open(depth);
                Node in = sum(depth + 1);
                sign(")");
                return in;
            }
            if (a.kind() == 'v') {
                Node n = new Node("cell", List.of());
                n.a = cellName();
                return n;
            }
            if (a.word("if")) {
                at++;
                open(depth);
                Node x = sum(depth + 1);
                sign(",");
                Node y = sum(depth + 1);
                sign(",");
                Node z = sum(depth + 1);
                sign(")");
                return new Node("if", List.of(x, y, z));
            }
            if (a.word("count") || a.word("sum") || a.word("least") || a.word("most")) {
                at++;
                open(depth);
                Node n;
                if (t().kind() == 'v' && (a.word("sum") || a.word("count"))) {
                    n = new Node("cells " + a.text(), List.of());
                    n.a = cellName();
                    sign(":");
                    int start = t().start();
                    n.b = cellName();
                    if (n.b % 6 < n.a % 6 || n.b / 6 < n.a / 6) {
                        throw new Wrong(start);
                    }
                } else {
                    n = new Node("rows " + a.text(), List.of());
                    n.name = name();
                    if (!a.word("count")) {
                        sign(",");
                        n.b = number(1, 4);
                    }
                }
                sign(")");
                return n;
            }
            Node n = new Node("value", List.of());
            n.v = value();
            return n;
        }
    }

    static final class Change {
        boolean plus;
        int place;
        String name;
        List<Long> row = new ArrayList<>();
    }

    static final class CellText {
        int cell;
        Node formula;
    }

    static final class Node {
        final String op;
        final List<Node> parts;
        int a;
        int b;
        long v;
        String name;

        Node(String op, List<Node> parts) {
            this.op = op;
            this.parts = parts;
        }

        void cells(Set<Integer> into) {
            parts.forEach(p -> p.cells(into));
            if (op.equals("cell")) {
                into.add(a);
            }
            if (op.startsWith("cells")) {
                for (int r = a / 6; r <= b / 6; r++) {
                    for (int c = a % 6; c <= b % 6; c++) {
                        into.add(c + 6 * r);
                    }
                }
            }
        }

        void names(Set<String> into) {
            parts.forEach(p -> p.names(into));
            if (name != null) {
                into.add(name);
            }
        }
    }

    /** A cell's VALUE: EMPTY (null is not used), a value or an ERROR. */
    record CellValue(int kind, long v) {
        static final CellValue EMPTY = new CellValue(0, 0);

        static CellValue of(long v) {
            return new CellValue(1, v);
        }

        static CellValue error(int e) {
            return new CellValue(2, e);
        }
    }

    // ---- lines

    static final class Snap {
        Prog prog = new Prog();
        Map<String, TreeSet<List<Long>>> facts = new HashMap<>();
        Node[] texts = new Node[72];
        CellValue[] cells = new CellValue[72];
        int editions;
        int moved;
        int told;
        int taken;

        Snap() {
            Arrays.fill(cells, CellValue.EMPTY);
        }
    }

    static final class LineM {
        List<Snap> past = new ArrayList<>(List.of(new Snap()));
        int oldest;
        int forkLine = -1;
        int forkRound;
        Map<String, Integer> worked = new HashMap<>();
        int[] cellWorked = new int[72];
        List<Change> changes = new ArrayList<>();
        Prog edition;
        Map<Integer, CellText> cells = new TreeMap<>();

        Snap now() {
            return past.get(past.size() - 1);
        }

        boolean isPast(int round) {
            return round >= oldest && round < past.size();
        }

        void empty() {
            changes = new ArrayList<>();
            edition = null;
            cells.clear();
        }
    }

    final StringBuilder tape = new StringBuilder();
    final LineM[] lines = {new LineM(), new LineM(), new LineM(), new LineM()};
    int here;
    int refused;
    int faultPlace = NONE;
    List<List<Long>> answers = new ArrayList<>();
    int answerWidth;
    Snap editsAhead;
    Snap editsBehind;
    List<Long> met;

    String take() {
        String text = tape.toString();
        tape.setLength(0);
        return text;
    }

    LineM at() {
        return lines[here];
    }

    // ---- the face

    void feed(String text) {
        tape.append(text);
    }

    int program() {
        faultPlace = NONE;
        Prog prog;
        try {
            prog = new Parser(take()).program();
        } catch (Wrong w) {
            return -1 - w.place;
        }
        int kind = fault(prog);
        if (kind > 0) {
            return -5000 - kind;
        }
        at().edition = prog;
        at().changes.clear();
        return prog.rules.size();
    }

    int fault(Prog prog) {
        List<Mention> ms = prog.mentions;
        int best = Integer.MAX_VALUE;
        for (int i = 0; i < ms.size(); i++) {
            for (int j = 0; j < i; j++) {
                String pair = ms.get(j).kind() + " " + ms.get(i).kind();
                boolean twice = Set.of("input input", "output output", "input head", "head input").contains(pair);
                if (twice && ms.get(i).name().equals(ms.get(j).name())) {
                    best = Math.min(best, ms.get(i).place());
                }
            }
        }
        if (best < Integer.MAX_VALUE) {
            faultPlace = best;
            return 1;
        }
        for (Mention m : ms) {
            if (!prog.inputs.contains(m.name()) && !prog.heads.contains(m.name())) {
                faultPlace = m.place();
                return 2;
            }
        }
        for (Mention m : ms) {
            if (m.n() > 0 && m.n() != prog.width.get(m.name())) {
                faultPlace = m.place();
                return 3;
            }
        }
        for (RuleM r : prog.rules) {
            if (r.unsafe() != NONE) {
                faultPlace = r.unsafe();
                return 4;
            }
        }
        for (RuleM r : prog.rules) {
            for (Lit l : r.body) {
                if (l.kind.equals("not") || l.atom() && r.gather >= 0) {
                    if (prog.ring(r.head).contains(l.name) && prog.reach(r.head).contains(r.head)) {
                        faultPlace = r.place;
                        return 5;
                    }
                }
            }
        }
        return 0;
    }

    int change() {
        faultPlace = NONE;
        List<Change> told;
        try {
            told = new Parser(take()).changes();
        } catch (Wrong w) {
            return -1 - w.place;
        }
        Prog prog = at().edition != null ? at().edition : at().now().prog;
        for (Change c : told) {
            int kind = !prog.inputs.contains(c.name) ? 2 : prog.width.get(c.name) != c.row.size() ? 3 : 0;
            if (kind > 0) {
                faultPlace = c.place;
                return -5000 - kind;
            }
        }
        if (at().changes.size() + told.size() > 400) {
            return -6000;
        }
        at().changes.addAll(told);
        return told.size();
    }

    int cell() {
        try {
            CellText told = new Parser(take()).cellText();
            at().cells.put(told.cell, told);
            return told.cell;
        } catch (Wrong w) {
            return -1 - w.place;
        }
    }

    int forget() {
        int had = at().changes.size();
        at().empty();
        return had;
    }

    /** WAYS: all values of the VARIABLES with which all LITERALS hold; rows of ATOMS as the filter allows. */
    interface Filter {
        boolean allows(Lit lit, List<Long> row);
    }

    static Set<List<Long>> ways(RuleM rule, Map<String, ? extends Set<List<Long>>> facts, Filter filter) {
        Set<List<Long>> all = new TreeSet<>(ORDER);
        List<Lit> atoms = rule.body.stream().filter(l -> l.kind.equals("atom")).toList();
        join(rule, atoms, 0, new Long[rule.vars.size()], facts, filter, all);
        return all;
    }

    private static void join(RuleM rule, List<Lit> atoms, int i, Long[] env, Map<String, ? extends Set<List<Long>>> facts,
            Filter filter, Set<List<Long>> all) {
        if (i == atoms.size()) {
            finish(rule, env, facts, all);
            return;
        }
        Lit lit = atoms.get(i);
        for (List<Long> row : facts.get(lit.name)) {
            if (filter.allows(lit, row)) {
                Long[] more = match(lit, row, env);
                if (more != null) {
                    join(rule, atoms, i + 1, more, facts, filter, all);
                }
            }
        }
    }

    static Long[] match(Lit lit, List<Long> row, Long[] env) {
        Long[] more = env.clone();
        for (int c = 0; c < row.size(); c++) {
            Term t = lit.terms.get(c);
            if (t.variable() >= 0) {
                if (more[t.variable()] == null) {
                    more[t.variable()] = row.get(c);
                }
                if (!more[t.variable()].equals(row.get(c))) {
                    return null;
                }
            } else if (t.value() != null && !t.value().equals(row.get(c))) {
                return null;
            }
        }
        return more;
    }

    private static void finish(RuleM rule, Long[] given, Map<String, ? extends Set<List<Long>>> facts, Set<List<Long>> all) {
        Long[] env = given.clone();
        boolean more = true;
        while (more) {
            more = false;
            for (Lit l : rule.body) {
                if (l.kind.equals("=")) {
                    for (int side = 0; side < 2; side++) {
                        Expr lone = side == 0 ? l.left : l.right;
                        Expr other = side == 0 ? l.right : l.left;
                        if (lone instanceof Var v && env[v.i()] == null && known(other, env)) {
                            env[v.i()] = other.value(env);
                            if (env[v.i()] == null) {
                                return;
                            }
                            more = true;
                        }
                    }
                }
            }
        }
        for (Lit l : rule.body) {
            if (l.kind.equals("not")) {
                for (List<Long> row : facts.get(l.name)) {
                    if (match(l, row, env) != null) {
                        return;
                    }
                }
            } else if (!l.atom()) {
                Long a = l.left.value(env);
                Long b = l.right.value(env);
                if (a == null || b == null) {
                    return;
                }
                int c = Long.compare(a, b);
                boolean holds = switch (l.kind) {
                    case "=" -> c == 0;
                    case "!=" -> c != 0;
                    case "<" -> c < 0;
                    case "<=" -> c <= 0;
                    case ">" -> c > 0;
                    default -> c >= 0;
                };
                if (!holds) {
                    return;
                }
            }
        }
        all.add(new ArrayList<>(Arrays.asList(env)));
    }

    private static boolean known(Expr e, Long[] env) {
        Set<Integer> all = new HashSet<>();
        e.variables(all);
        return all.stream().allMatch(v -> env[v] != null);
    }

    /** The HEAD's row of a WAY (0 for what is gathered); null if it has none. */
    static List<Long> headRow(RuleM rule, List<Long> way) {
        List<Long> row = new ArrayList<>();
        for (Expr e : rule.items) {
            Long v = e == null ? Long.valueOf(0) : e.value(way.toArray(new Long[0]));
            if (v == null) {
                return null;
            }
            row.add(v);
        }
        return row;
    }

    static Set<List<Long>> gathered(RuleM rule, Map<String, ? extends Set<List<Long>>> facts) {
        Map<List<Long>, List<Long>> groups = new TreeMap<>(ORDER);
        for (List<Long> way : ways(rule, facts, (l, r) -> true)) {
            List<Long> row = headRow(rule, way);
            if (row != null) {
                groups.computeIfAbsent(row, k -> new ArrayList<>()).add(rule.how.equals("count") ? Long.valueOf(1) : way.get(rule.gatherVar));
            }
        }
        Set<List<Long>> rows = new TreeSet<>(ORDER);
        for (Map.Entry<List<Long>, List<Long>> g : groups.entrySet()) {
            Long told = switch (rule.how) {
                case "count" -> Long.valueOf(g.getValue().size());
                case "least" -> Collections.min(g.getValue());
                case "most" -> Collections.max(g.getValue());
                default -> {
                    List<Long> numbers = g.getValue().stream().filter(v -> v <= BOUND).toList();
                    long sum = numbers.stream().mapToLong(v -> v).sum();
                    yield numbers.isEmpty() || Math.abs(sum) > BOUND ? null : Long.valueOf(sum);
                }
            };
            if (told != null) {
                List<Long> row = new ArrayList<>(g.getKey());
                row.set(rule.gather, told);
                rows.add(row);
            }
        }
        return rows;
    }

    /** RANKS of the rows of a RING over all that it reads. */
    static Map<String, TreeMap<List<Long>, Integer>> ringRanks(Prog prog, Set<String> ring, Map<String, TreeSet<List<Long>>> below) {
        Map<String, TreeMap<List<Long>, Integer>> ranks = new HashMap<>();
        Map<String, Set<List<Long>>> facts = new HashMap<>(below);
        for (String name : ring) {
            ranks.put(name, new TreeMap<>(ORDER));
            facts.put(name, ranks.get(name).keySet());
        }
        boolean more = true;
        for (int level = 1; more; level++) {
            more = false;
            Map<String, Set<List<Long>>> fresh = new HashMap<>();
            for (String name : ring) {
                fresh.put(name, new TreeSet<>(ORDER));
            }
            for (RuleM r : prog.rules) {
                if (ring.contains(r.head)) {
                    if (r.gather >= 0) {
                        fresh.get(r.head).addAll(gathered(r, facts));
                    } else {
                        for (List<Long> way : ways(r, facts, (l, row) -> true)) {
                            List<Long> row = headRow(r, way);
                            if (row != null) {
                                fresh.get(r.head).add(row);
                            }
                        }
                    }
                }
            }
            for (String name : ring) {
                for (List<Long> row : fresh.get(name)) {
                    more |= ranks.get(name).putIfAbsent(row, level) == null;
                }
                if (ranks.get(name).size() > 100) {
                    throw new Refused();
                }
            }
        }
        return ranks;
    }

    static List<Set<String>> ringsInOrder(Prog prog) {
        List<Set<String>> order = new ArrayList<>();
        Set<String> done = new HashSet<>();
        while (done.size() < prog.names.size()) {
            for (String name : prog.names) {
                Set<String> ring = prog.ring(name);
                Set<String> reads = new HashSet<>();
                ring.forEach(n -> reads.addAll(prog.reads(n)));
                reads.removeAll(ring);
                if (!done.contains(name) && done.containsAll(reads)) {
                    order.add(ring);
                    done.addAll(ring);
                }
            }
        }
        return order;
    }

    static TreeSet<List<Long>> sameBefore(Snap old, Prog prog, String name) {
        boolean same = old.prog.names.contains(name) && old.prog.width.get(name).equals(prog.width.get(name));
        return same ? old.facts.get(name) : new TreeSet<>(ORDER);
    }

    static int differing(Set<List<Long>> a, Set<List<Long>> b) {
        int n = 0;
        for (List<Long> row : a) {
            n += b.contains(row) ? 0 : 1;
        }
        for (List<Long> row : b) {
            n += a.contains(row) ? 0 : 1;
        }
        return n;
    }

    int round() {
        LineM line = at();
        Snap old = line.now();
        Snap now = new Snap();
        boolean taken = line.edition != null;
        now.prog = taken ? line.edition : old.prog;
        try {
            settleFacts(line, old, now, taken);
        } catch (Refused r) {
            refused++;
            line.empty();
            return -1;
        }
        Set<String> changed = new HashSet<>();
        for (String name : now.prog.names) {
            int n = differing(sameBefore(old, now.prog, name), now.facts.get(name));
            now.moved += n;
            if (n > 0) {
                changed.add(name);
            }
        }
        for (String name : old.prog.names) {
            if (!(now.prog.names.contains(name) && now.prog.width.get(name).equals(old.prog.width.get(name)))) {
                now.moved += old.facts.get(name).size();
            }
        }
        if (taken) {
            line.worked.clear();
        }
        for (String name : now.prog.names) {
            boolean due = taken;
            for (String member : now.prog.ring(name)) {
                for (String read : now.prog.reads(member)) {
                    due |= changed.contains(read);
                }
            }
            if (due && !now.prog.inputs.contains(name)) {
                line.worked.merge(name, 1, Integer::sum);
            }
        }
        now.taken = taken ? 1 : 0;
        now.editions = old.editions + now.taken;
        settleSheet(line, old, now, changed, taken);
        line.past.add(now);
        int o = line.oldest;
        while (true) {
            int rows = 0;
            int cells = 0;
            int editions = 0;
            for (int r = o + 1; r < line.past.size(); r++) {
                rows += line.past.get(r).moved;
                cells += line.past.get(r).told;
                editions += line.past.get(r).taken;
            }
            if (rows <= 8000 && cells <= 100 && editions <= 7) {
                break;
            }
            o++;
        }
        line.oldest = o;
        line.empty();
        editsAhead = old;
        editsBehind = now;
        return now.moved;
    }

    private void settleFacts(LineM line, Snap old, Snap now, boolean taken) {
        Prog prog = now.prog;
        for (String name : prog.names) {
            TreeSet<List<Long>> rows = new TreeSet<>(ORDER);
            boolean kept = prog.inputs.contains(name) && old.prog.inputs.contains(name)
                && old.prog.width.get(name).equals(prog.width.get(name)) && old.prog.keys.get(name).equals(prog.keys.get(name));
            if (kept) {
                rows.addAll(old.facts.get(name));
            }
            now.facts.put(name, rows);
        }
        for (Change c : line.changes) {
            boolean fits = prog.inputs.contains(c.name) && prog.width.get(c.name) == c.row.size();
            if (!fits) {
                continue;
            }
            TreeSet<List<Long>> rows = now.facts.get(c.name);
            int k = prog.keys.get(c.name);
            if (c.plus) {
                if (k > 0) {
                    rows.removeIf(r -> r.subList(0, k).equals(c.row.subList(0, k)));
                }
                rows.add(c.row);
            } else {
                rows.remove(c.row);
            }
        }
        for (String name : prog.inputs) {
            if (now.facts.get(name).size() > 100) {
                throw new Refused();
            }
        }
        for (Set<String> ring : ringsInOrder(prog)) {
            if (ring.stream().noneMatch(prog.inputs::contains)) {
                Map<String, TreeMap<List<Long>, Integer>> ranks = ringRanks(prog, ring, now.facts);
                for (String name : ring) {
                    TreeSet<List<Long>> rows = new TreeSet<>(ORDER);
                    rows.addAll(ranks.get(name).keySet());
                    now.facts.put(name, rows);
                }
            }
        }
    }

    private void settleSheet(LineM line, Snap old, Snap now, Set<String> changed, boolean taken) {
        now.texts = old.texts.clone();
        for (CellText t : line.cells.values()) {
            now.texts[t.cell] = t.formula;
            now.told++;
        }
        List<Set<Integer>> reads = new ArrayList<>();
        for (int c = 0; c < 72; c++) {
            Set<Integer> r = new HashSet<>();
            if (now.texts[c] != null) {
                now.texts[c].cells(r);
            }
            reads.add(r);
        }
        CellValue[] memo = new CellValue[72];
        for (int c = 0; c < 72; c++) {
            Set<Integer> seen = new HashSet<>();
            List<Integer> todo = new ArrayList<>(reads.get(c));
            while (!todo.isEmpty()) {
                int d = todo.remove(todo.size() - 1);
                if (seen.add(d)) {
                    todo.addAll(reads.get(d));
                }
            }
            if (now.texts[c] == null) {
                memo[c] = CellValue.EMPTY;
            } else if (seen.contains(c)) {
                memo[c] = CellValue.error(1);
            }
        }
        for (int c = 0; c < 72; c++) {
            cellValue(now, memo, c);
        }
        now.cells = memo;
        for (int c = 0; c < 72; c++) {
            if (now.texts[c] != null) {
                Set<String> names = new HashSet<>();
                now.texts[c].names(names);
                boolean due = line.cells.containsKey(c) || taken && !names.isEmpty();
                for (int d : reads.get(c)) {
                    due |= !now.cells[d].equals(old.cells[d]);
                }
                for (String n : names) {
                    due |= changed.contains(n);
                }
                line.cellWorked[c] += due ? 1 : 0;
            }
        }
    }

    private CellValue cellValue(Snap now, CellValue[] memo, int c) {
        if (memo[c] == null) {
            memo[c] = nodeValue(now, memo, now.texts[c]);
        }
        return memo[c];
    }

    private CellValue nodeValue(Snap now, CellValue[] memo, Node n) {
        switch (n.op) {
            case "value":
                return CellValue.of(n.v);
            case "cell": {
                CellValue v = cellValue(now, memo, n.a);
                return v.kind() == 0 ? CellValue.of(0) : v;
            }
            case "if": {
                CellValue v = nodeValue(now, memo, n.parts.get(0));
                return v.kind() == 2 ? v : nodeValue(now, memo, n.parts.get(v.v() != 0 ? 1 : 2));
            }
            case "cells sum":
            case "cells count": {
                long sum = 0;
                int count = 0;
                for (int r = n.a / 6; r <= n.b / 6; r++) {
                    for (int c = n.a % 6; c <= n.b % 6; c++) {
                        CellValue v = cellValue(now, memo, c + 6 * r);
                        if (v.kind() == 2) {
                            return v;
                        }
                        count += v.kind();
                        sum += v.kind() == 1 && v.v() <= BOUND ? v.v() : 0;
                    }
                }
                return n.op.equals("cells count") ? CellValue.of(count) : Math.abs(sum) > BOUND ? CellValue.error(3) : CellValue.of(sum);
            }
            default:
                break;
        }
        if (n.op.startsWith("rows ")) {
            if (!now.prog.names.contains(n.name) || n.b > now.prog.width.get(n.name)) {
                return CellValue.error(4);
            }
            TreeSet<List<Long>> rows = now.facts.get(n.name);
            switch (n.op) {
                case "rows count":
                    return CellValue.of(rows.size());
                case "rows sum": {
                    long sum = rows.stream().mapToLong(r -> r.get(n.b - 1)).filter(v -> v <= BOUND).sum();
                    return Math.abs(sum) > BOUND ? CellValue.error(3) : CellValue.of(sum);
                }
                case "rows least":
                    return CellValue.of(rows.stream().mapToLong(r -> r.get(n.b - 1)).min().orElse(0));
                default:
                    return CellValue.of(rows.stream().mapToLong(r -> r.get(n.b - 1)).max().orElse(0));
            }
        }
        CellValue a = nodeValue(now, memo, n.parts.get(0));
        CellValue b = nodeValue(now, memo, n.parts.get(1));
        if (a.kind() == 2) {
            return a;
        }
        if (b.kind() == 2) {
            return b;
        }
        if (a.v() > BOUND || b.v() > BOUND) {
            return CellValue.error(2);
        }
        Long v = calc(n.op, a.v(), b.v());
        return v == null ? CellValue.error(3) : CellValue.of(v);
    }

    int count(int what) {
        LineM line = at();
        Snap now = line.now();
        return switch (what) {
            case 0 -> line.past.size() - 1;
            case 1 -> line.oldest;
            case 2 -> now.prog.names.size();
            case 3 -> now.prog.rules.size();
            case 4 -> line.changes.size();
            case 5 -> here;
            case 6 -> now.facts.values().stream().mapToInt(Set::size).sum();
            case 7 -> now.editions;
            case 8 -> refused;
            case 9 -> tape.length();
            default -> NONE;
        };
    }

    private static String nameOf(Snap snap, int p) {
        if (p < 0 || p >= snap.prog.names.size()) {
            throw new NoSuchElementException();
        }
        return snap.prog.names.get(p);
    }

    int predicate(int p, int what) {
        Snap now = at().now();
        String name = nameOf(now, p);
        return switch (what) {
            case 0 -> now.prog.width.get(name);
            case 1 -> now.prog.keys.getOrDefault(name, 0);
            case 2 -> now.prog.inputs.contains(name) ? 1 : 0;
            case 3 -> now.prog.outputs.contains(name) ? 1 : 0;
            case 4 -> now.prog.ringNumber(name);
            case 5 -> at().worked.getOrDefault(name, 0);
            case 6 -> now.facts.get(name).size();
            case 7 -> editsBehind != null && differing(sameBefore(editsAhead, now.prog, name), now.facts.get(name)) > 0 ? 1 : 0;
            default -> NONE;
        };
    }

    private static <T> T item(Iterable<T> all, int i) {
        int j = 0;
        for (T t : all) {
            if (j == i) {
                return t;
            }
            j++;
        }
        throw new NoSuchElementException();
    }

    private static long column(List<Long> row, int c) {
        if (c < 0 || c >= row.size()) {
            throw new NoSuchElementException();
        }
        return row.get(c);
    }

    long value(int p, int i, int column) {
        Snap now = at().now();
        return column(item(now.facts.get(nameOf(now, p)), i), column);
    }

    private List<List<Long>> allEdits() {
        List<List<Long>> all = new ArrayList<>();
        if (editsBehind == null) {
            return all;
        }
        Prog prog = editsBehind.prog;
        for (String name : prog.names) {
            if (prog.outputs.contains(name)) {
                TreeSet<List<Long>> before = sameBefore(editsAhead, prog, name);
                TreeSet<List<Long>> now = editsBehind.facts.get(name);
                TreeSet<List<Long>> both = new TreeSet<>(ORDER);
                both.addAll(before);
                both.addAll(now);
                for (List<Long> row : both) {
                    if (before.contains(row) != now.contains(row)) {
                        List<Long> e = new ArrayList<>(List.of((long) prog.names.indexOf(name), now.contains(row) ? 1L : 0L));
                        e.addAll(row);
                        all.add(e);
                    }
                }
            }
        }
        return all;
    }

    int edits() {
        return allEdits().size();
    }

    long edit(int i, int what) {
        return column(item(allEdits(), i), what);
    }

    int query() {
        faultPlace = NONE;
        RuleM asked;
        try {
            asked = new Parser(take()).query();
        } catch (Wrong w) {
            return -1 - w.place;
        }
        Snap now = at().now();
        for (int kind = 2; kind <= 3; kind++) {
            for (Lit l : asked.body) {
                if (l.atom()) {
                    boolean known = now.prog.names.contains(l.name);
                    if (kind == 2 ? !known : now.prog.width.get(l.name) != l.terms.size()) {
                        faultPlace = l.place;
                        return -5000 - kind;
                    }
                }
            }
        }
        if (asked.unsafe() != NONE) {
            faultPlace = asked.unsafe();
            return -5004;
        }
        Set<List<Long>> all = ways(asked, now.facts, (l, r) -> true);
        if (all.size() > 500) {
            return -6000;
        }
        if (!all.isEmpty()) {
            answers = new ArrayList<>(all);
        }
        return all.size();
    }

    long answer(int i, int variable) {
        return column(item(answers, i), variable);
    }

    int rank(int p, int i) {
        Snap now = at().now();
        String name = nameOf(now, p);
        List<Long> row = item(now.facts.get(name), i);
        return now.prog.inputs.contains(name) ? 0 : ringRanks(now.prog, now.prog.ring(name), now.facts).get(name).get(row);
    }

    int reason(int p, int i, int what) {
        Snap now = at().now();
        String name = nameOf(now, p);
        List<Long> row = item(now.facts.get(name), i);
        if (now.prog.inputs.contains(name) || what < 0) {
            return NONE;
        }
        Set<String> ring = now.prog.ring(name);
        Map<String, TreeMap<List<Long>, Integer>> ranks = ringRanks(now.prog, ring, now.facts);
        int rank = ranks.get(name).get(row);
        Filter lower = (l, r) -> !ring.contains(l.name) || ranks.get(l.name).get(r) < rank;
        for (int r = 0; r < now.prog.rules.size(); r++) {
            RuleM rule = now.prog.rules.get(r);
            if (!rule.head.equals(name)) {
                continue;
            }
            if (rule.gather >= 0) {
                if (gathered(rule, now.facts).contains(row)) {
                    return what == 0 ? r : NONE;
                }
                continue;
            }
            for (List<Long> way : ways(rule, now.facts, lower)) {
                if (Objects.equals(headRow(rule, way), row)) {
                    if (what == 0) {
                        return r;
                    }
                    List<Lit> atoms = rule.body.stream().filter(l -> l.kind.equals("atom")).toList();
                    if (what > atoms.size()) {
                        return NONE;
                    }
                    Lit l = atoms.get(what - 1);
                    int place = 0;
                    for (List<Long> read : now.facts.get(l.name)) {
                        if (lower.allows(l, read) && match(l, read, way.toArray(new Long[0])) != null) {
                            return place;
                        }
                        place++;
                    }
                    throw new IllegalStateException();
                }
            }
        }
        throw new IllegalStateException();
    }

    long sheet(int column, int row, int what) {
        if (column < 0 || column > 5 || row < 0 || row > 11) {
            throw new NoSuchElementException();
        }
        CellValue v = at().now().cells[column + 6 * row];
        return what == 0 ? v.kind() : what == 1 ? v.v() : what == 2 ? at().cellWorked[column + 6 * row] : NONE;
    }

    int past(int round, int p) {
        if (!at().isPast(round)) {
            return NONE;
        }
        Snap snap = at().past.get(round);
        return p < 0 || p >= snap.prog.names.size() ? NONE : snap.facts.get(snap.prog.names.get(p)).size();
    }

    long pastValue(int round, int p, int i, int column) {
        if (!at().isPast(round)) {
            throw new NoSuchElementException();
        }
        Snap snap = at().past.get(round);
        return column(item(snap.facts.get(nameOf(snap, p)), i), column);
    }

    int back(int round) {
        LineM line = at();
        if (!line.isPast(round)) {
            return NONE;
        }
        int gone = line.past.size() - 1 - round;
        if (line.past.get(round).prog != line.now().prog) {
            line.worked.clear();
        }
        line.past = new ArrayList<>(line.past.subList(0, round + 1));
        line.empty();
        if (line.forkLine >= 0 && round < line.forkRound) {
            line.forkLine = -1;
        }
        for (LineM other : lines) {
            if (other.forkLine == here && other.forkRound > round) {
                other.forkLine = -1;
            }
        }
        editsBehind = null;
        return gone;
    }

    int branch(int k, int round) {
        if (k < 0 || k > 3 || k == here || !at().isPast(round)) {
            return NONE;
        }
        LineM made = new LineM();
        made.past = new ArrayList<>(at().past.subList(0, round + 1));
        made.oldest = at().oldest;
        made.forkLine = here;
        made.forkRound = round;
        for (LineM other : lines) {
            if (other.forkLine == k) {
                other.forkLine = -1;
            }
        }
        lines[k] = made;
        return round;
    }

    int line(int k) {
        if (k < 0 || k > 3) {
            return NONE;
        }
        int was = here;
        here = k;
        editsBehind = null;
        return was;
    }

    int merge(int k) {
        LineM a = at();
        if (k < 0 || k > 3 || k == here || lines[k].forkLine != here || !a.isPast(lines[k].forkRound)) {
            return -1;
        }
        Snap fork = a.past.get(lines[k].forkRound);
        Snap b = lines[k].now();
        Prog prog = fork.prog;
        if (a.now().prog != prog || b.prog != prog) {
            return -2;
        }
        for (String name : prog.names) {
            int key = prog.keys.getOrDefault(name, 0);
            if (prog.inputs.contains(name) && key > 0) {
                Set<List<Long>> firsts = new TreeSet<>(ORDER);
                fork.facts.get(name).forEach(r -> firsts.add(r.subList(0, key)));
                b.facts.get(name).forEach(r -> firsts.add(r.subList(0, key)));
                for (List<Long> first : firsts) {
                    List<Long> f = withKey(fork, name, first);
                    List<Long> x = withKey(a.now(), name, first);
                    List<Long> y = withKey(b, name, first);
                    if (!Objects.equals(x, f) && !Objects.equals(y, f) && !Objects.equals(x, y)) {
                        met = new ArrayList<>(List.of((long) prog.names.indexOf(name)));
                        met.addAll(first);
                        return -3;
                    }
                }
            }
        }
        List<Change> all = new ArrayList<>();
        for (String name : prog.names) {
            if (prog.inputs.contains(name)) {
                for (int plus = 0; plus < 2; plus++) {
                    for (List<Long> row : (plus == 1 ? b : fork).facts.get(name)) {
                        if (!(plus == 1 ? fork : b).facts.get(name).contains(row)) {
                            Change c = new Change();
                            c.plus = plus == 1;
                            c.name = name;
                            c.row = row;
                            all.add(c);
                        }
                    }
                }
            }
        }
        if (a.changes.size() + all.size() > 400) {
            return -4;
        }
        a.changes.addAll(all);
        return all.size();
    }

    private static List<Long> withKey(Snap snap, String name, List<Long> first) {
        for (List<Long> row : snap.facts.get(name)) {
            if (row.subList(0, first.size()).equals(first)) {
                return row;
            }
        }
        return null;
    }

    long met(int what) {
        if (met == null) {
            throw new NoSuchElementException();
        }
        return column(met, what);
    }
}

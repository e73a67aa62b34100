import java.util.Arrays;
import java.util.NoSuchElementException;

/**
 * A house of programs that are answered again by what changed: rules over facts, a sheet of cells
 * over them, rounds, lines with a past, and why something holds. The promises stand in DOC.md.
 */
public final class ChangeHouse {

    public static final int NONE = -1;

    private static final int TAPE_BYTES = 3000;
    private static final int LINES = 4;
    private static final int NAMES = 16;
    private static final int NAME_SIGNS = 12;
    private static final int RULES = 24;
    private static final int LITERALS = 8;
    private static final int ATOMS = 3;
    private static final int VARIABLES = 8;
    private static final int VARIABLE_SIGNS = 8;
    private static final int WORD_SIGNS = 8;
    private static final int WIDTH = 4;
    private static final int BRACKETS = 4;
    private static final int ROWS = 100;
    private static final int CHANGES = 400;
    private static final int ANSWERS = 500;
    private static final int COLUMNS = 6;
    private static final int CELLS = 72;
    private static final int FORMULA_TOKENS = 60;
    private static final int PAST_ROWS = 8000;
    private static final int PAST_CELLS = 100;
    private static final int PAST_EDITIONS = 7;
    private static final int FAULTY = -5000;
    private static final int TOO_MANY = -6000;

    // An object has 512 calls, so no line ever has more rounds.
    private static final int ROUNDS = 520;
    // Brackets four deep leave three operands waiting at each depth at most.
    private static final int STACK = 32;
    // Three ATOMS of a hundred rows have a million WAYS.
    private static final int MANY_WAYS = 10000000;
    private static final int MANY_STEPS = 1000000000;
    // A RING of sixteen predicates with a hundred rows each has no more levels than rows.
    private static final int LEVELS = 1700;
    // Rows ahead of the LIMIT's test: a hundred, and one more for each CHANGE.
    private static final int LOOSE_ROWS = 512;
    // What a text of 3000 bytes can't have: it needs six bytes a CHANGE, five a NAME of a predicate.
    private static final int MENTIONS = 1024;

    private static final long BOUND = 1000000000000L;
    private static final long WORDS = 2000000000000L;
    // Beyond all values: ERROR + 1 .. ERROR + 4 are the sheet's ERRORS (a rule's EXPRESSION has no value then).
    private static final long ERROR = -9000000000000000000L;
    private static final long EMPTY = 9000000000000000000L;
    private static final int ERROR_RING = 1;
    private static final int ERROR_WORD = 2;
    private static final int ERROR_BOUND = 3;
    private static final int ERROR_NAME = 4;

    // Kinds of TOKENS; a sign of one byte is its own kind.
    private static final int END = 0;
    private static final int NAME = 1;
    private static final int VARIABLE = 2;
    private static final int ANY = 3;
    private static final int NUMBER = 4;
    private static final int BAD = 5;
    private static final int INPUT = 6;
    private static final int OUTPUT = 7;
    private static final int KEY = 8;
    private static final int NOT = 9;
    private static final int COUNT = 10;
    private static final int SUM = 11;
    private static final int LEAST = 12;
    private static final int MOST = 13;
    private static final int IF_SIGN = 256;
    private static final int DIFFERENT = 257;
    private static final int AT_MOST = 258;
    private static final int AT_LEAST = 259;

    // Where a NAME stands, and what a LITERAL is, beside the kinds above.
    private static final int HEAD = 14;
    private static final int ATOM = 15;

    // Steps of an EXPRESSION's or FORMULA's code, operands ahead of their sign; a sign is its own step.
    private static final int PUT_VALUE = 1;
    private static final int PUT_VARIABLE = 2;
    private static final int CELLS_SUM = 3;
    private static final int CELLS_COUNT = 4;
    private static final int ROWS_COUNT = 10;
    private static final int ROWS_SUM = 11;
    private static final int ROWS_LEAST = 12;
    private static final int ROWS_MOST = 13;
    private static final int TEST = 14;
    private static final int JUMP = 15;

    // Brackets on the reader's stack: a plain one, and the three parts of an if.
    private static final int PLAIN_PART = 1;
    private static final int IF_FIRST = 2;
    private static final int IF_SECOND = 3;
    private static final int IF_THIRD = 4;

    private final Tape tape = new Tape();
    private final Reader reader = new Reader(tape);
    private final Ways ways = new Ways();
    private final Works works = new Works(ways);
    private final Sheet calculator = new Sheet();
    private final Line[] lines = new Line[LINES];
    private int here;
    private int programsRead;
    private int refused;
    private int faultPlace = NONE;
    private Rows answers = new Rows(VARIABLES, ANSWERS);
    private Rows spareAnswers = new Rows(VARIABLES, ANSWERS);
    // The moments ahead of and behind the round that edits() tells of; null if there is none.
    private Moment editsAhead;
    private Moment editsBehind;
    private final long[] metValues = new long[WIDTH];
    private int metPredicate = NONE;
    private int metWidth;

    public ChangeHouse() {
        Moment nothing = new Moment(new Program(0), new Rows[0]);
        nothing.texts = new Formula[CELLS];
        nothing.cells = new long[CELLS];
        Arrays.fill(nothing.cells, EMPTY);
        for (int i = 0; i < LINES; i++) {
            lines[i] = new Line(nothing);
        }
    }

    public boolean feed(int a, int b, int c, int d, int e) {
        if (tape.size + 20 > TAPE_BYTES) {
            return false;
        }
        tape.add(a);
        tape.add(b);
        tape.add(c);
        tape.add(d);
        tape.add(e);
        return true;
    }

    public boolean end(int n) {
        if (n < 0 || n > tape.size) {
            return false;
        }
        tape.size = n;
        return true;
    }

    public int program() {
        faultPlace = NONE;
        programsRead++;
        Program next = new Program(programsRead);
        boolean right = true;
        tape.split();
        try {
            reader.readProgram(next);
        } catch (IllegalArgumentException e) {
            right = false;
        }
        tape.size = 0;
        if (!right) {
            return -1 - reader.place;
        }
        int kind = reader.programFault();
        if (kind != 0) {
            faultPlace = reader.place;
            return FAULTY - kind;
        }
        Line line = lines[here];
        line.edition = next;
        line.changes = 0;
        return next.rules;
    }

    public int place() {
        return faultPlace;
    }

    public int change() {
        faultPlace = NONE;
        Line line = lines[here];
        Program program = line.edition != null ? line.edition : line.present().program;
        boolean right = true;
        tape.split();
        try {
            reader.readChanges(program);
        } catch (IllegalArgumentException e) {
            right = false;
        }
        tape.size = 0;
        if (!right) {
            return -1 - reader.place;
        }
        int kind = reader.changesFault();
        if (kind != 0) {
            faultPlace = reader.place;
            return FAULTY - kind;
        }
        if (line.changes + reader.mentions > CHANGES) {
            return TOO_MANY;
        }
        for (int i = 0; i < reader.mentions; i++) {
            line.addChange(reader.predicates[i], reader.kinds[i] == '+', reader.values, WIDTH * i, reader.widths[i]);
        }
        return reader.mentions;
    }

    public int cell() {
        boolean right = true;
        int cell = NONE;
        tape.split();
        try {
            cell = reader.readCell();
        } catch (IllegalArgumentException e) {
            right = false;
        }
        tape.size = 0;
        if (!right || cell < 0) {
            return -1 - reader.place;
        }
        Line line = lines[here];
        line.cellTold[cell] = true;
        line.cellTexts[cell] = reader.formula;
        return cell;
    }

    public int forget() {
        int had = lines[here].changes;
        lines[here].emptyPending();
        return had;
    }

    public int round() {
        Line line = lines[here];
        Moment ahead = line.present();
        boolean taken = line.edition != null;
        Program next = taken ? line.edition : ahead.program;
        works.begin(ahead, next);
        boolean right = line.rounds + 1 < ROUNDS && works.tell(line);
        for (int i = 0; right && i < next.ringCount; i++) {
            right = works.workRing(next.order[i], taken);
        }
        if (!right) {
            refused++;
            line.emptyPending();
            return -1;
        }
        Moment behind = works.outcome(ahead, taken);
        calculator.settle(ahead, behind, line, works.changed);
        line.countWorked(works.worked, taken);
        line.append(behind);
        line.emptyPending();
        editsAhead = ahead;
        editsBehind = behind;
        return behind.moved;
    }

    public int count(int what) {
        Line line = lines[here];
        Moment now = line.present();
        switch (what) {
            case 0:
                return line.rounds;
            case 1:
                return line.oldest;
            case 2:
                return now.program.predicates;
            case 3:
                return now.program.rules;
            case 4:
                return line.changes;
            case 5:
                return here;
            case 6:
                return now.rowsOfAll();
            case 7:
                return now.editions;
            case 8:
                return refused;
            case 9:
                return tape.size;
            default:
                return NONE;
        }
    }

    public int predicate(int p, int what) throws NoSuchElementException {
        Line line = lines[here];
        Moment now = line.present();
        Program program = now.program;
        if (p < 0 || p >= program.predicates) {
            throw new NoSuchElementException();
        }
        switch (what) {
            case 0:
                return program.widths[p];
            case 1:
                return program.keys[p];
            case 2:
                return program.inputs[p] ? 1 : 0;
            case 3:
                return program.outputs[p] ? 1 : 0;
            case 4:
                return program.rings[p];
            case 5:
                return line.worked[p];
            case 6:
                return now.rows[p].size;
            case 7:
                return editsBehind != null && editsBehind.differing(editsAhead, p) > 0 ? 1 : 0;
            default:
                return NONE;
        }
    }

    public long value(int p, int i, int column) throws NoSuchElementException {
        Moment now = lines[here].present();
        if (!now.has(p, i, column)) {
            throw new NoSuchElementException();
        }
        return now.rows[p].at(i, column);
    }

    public int edits() {
        int all = 0;
        if (editsBehind != null) {
            Program program = editsBehind.program;
            for (int p = 0; p < program.predicates; p++) {
                if (program.outputs[p]) {
                    all += editsBehind.differing(editsAhead, p);
                }
            }
        }
        return all;
    }

    public long edit(int i, int what) throws NoSuchElementException {
        int left = i;
        int p = 0;
        int all = editsBehind == null ? 0 : editsBehind.program.predicates;
        for (; p < all; p++) {
            int own = editsBehind.program.outputs[p] ? editsBehind.differing(editsAhead, p) : 0;
            if (left < own) {
                break;
            }
            left -= own;
        }
        if (i < 0 || what < 0 || p >= all || what >= 2 + editsBehind.program.widths[p]) {
            throw new NoSuchElementException();
        }
        if (what == 0) {
            return p;
        }
        Rows went = editsBehind.rowsAhead(editsAhead, p);
        Rows came = editsBehind.rows[p];
        int which = came.difference(went, left);
        if (which == NONE) {
            throw new NoSuchElementException();
        }
        if (what == 1) {
            return which & 1;
        }
        return (which & 1) == 1 ? came.at(which >> 1, what - 2) : went.at(which >> 1, what - 2);
    }

    public int query() {
        faultPlace = NONE;
        Moment now = lines[here].present();
        boolean right = true;
        tape.split();
        try {
            reader.readQuery(now.program);
        } catch (IllegalArgumentException e) {
            right = false;
        }
        tape.size = 0;
        if (!right) {
            return -1 - reader.place;
        }
        int kind = reader.queryFault();
        if (kind != 0) {
            faultPlace = reader.place;
            return FAULTY - kind;
        }
        return ask(reader.rule, now);
    }

    /** Keeps the ANSWERS of the query ahead until another one has some. */
    private int ask(Rule asked, Moment now) {
        Rows found = spareAnswers;
        found.start(asked.variables);
        ways.open(asked, now.rows, false);
        for (int i = 0; i < MANY_WAYS && ways.next(); i++) {
            int at = found.find(ways.values);
            if (at < 0) {
                if (found.size == ANSWERS) {
                    return TOO_MANY;
                }
                found.insert(-1 - at, ways.values, 0);
            }
        }
        if (found.size > 0) {
            spareAnswers = answers;
            answers = found;
        }
        return found.size;
    }

    public long answer(int i, int variable) throws NoSuchElementException {
        if (i < 0 || i >= answers.size || variable < 0 || variable >= answers.width) {
            throw new NoSuchElementException();
        }
        return answers.at(i, variable);
    }

    public int rank(int p, int i) throws NoSuchElementException {
        Moment now = lines[here].present();
        if (!now.has(p, i, 0)) {
            throw new NoSuchElementException();
        }
        return now.rows[p].ranks[i];
    }

    public int reason(int p, int i, int what) throws NoSuchElementException {
        Moment now = lines[here].present();
        if (!now.has(p, i, 0)) {
            throw new NoSuchElementException();
        }
        if (what < 0 || what > ATOMS || now.program.inputs[p]) {
            return NONE;
        }
        works.explain(now, p, i);
        return what == 0 ? works.reasonRule : works.reasonRows[what - 1];
    }

    public long sheet(int column, int row, int what) throws NoSuchElementException {
        if (column < 0 || column >= COLUMNS || row < 0 || row >= CELLS / COLUMNS) {
            throw new NoSuchElementException();
        }
        int cell = column + COLUMNS * row;
        long told = lines[here].present().cells[cell];
        boolean error = told < -BOUND;
        switch (what) {
            case 0:
                return told == EMPTY ? 0 : error ? 2 : 1;
            case 1:
                return told == EMPTY ? 0 : error ? told - ERROR : told;
            case 2:
                return lines[here].cellWorked[cell];
            default:
                return NONE;
        }
    }

    public int past(int round, int p) {
        Line line = lines[here];
        if (!line.isPast(round) || p < 0 || p >= line.moments[round].program.predicates) {
            return NONE;
        }
        return line.moments[round].rows[p].size;
    }

    public long pastValue(int round, int p, int i, int column) throws NoSuchElementException {
        Line line = lines[here];
        if (!line.isPast(round) || !line.moments[round].has(p, i, column)) {
            throw new NoSuchElementException();
        }
        return line.moments[round].rows[p].at(i, column);
    }

    public int back(int round) {
        Line line = lines[here];
        if (!line.isPast(round)) {
            return NONE;
        }
        int gone = line.rounds - round;
        line.goBack(round);
        for (int k = 0; k < LINES; k++) {
            if (lines[k].forkLine == here && lines[k].forkRound > round) {
                lines[k].forkLine = NONE;
            }
        }
        editsBehind = null;
        return gone;
    }

    public int branch(int k, int round) {
        Line line = lines[here];
        if (k < 0 || k >= LINES || k == here || !line.isPast(round)) {
            return NONE;
        }
        lines[k].become(line, round);
        for (int i = 0; i < LINES; i++) {
            if (lines[i].forkLine == k) {
                lines[i].forkLine = NONE;
            }
        }
        lines[k].forkLine = here;
        lines[k].forkRound = round;
        return round;
    }

    public int line(int k) {
        if (k < 0 || k >= LINES) {
            return NONE;
        }
        int was = here;
        here = k;
        editsBehind = null;
        return was;
    }

    public int merge(int k) {
        Line line = lines[here];
        if (k < 0 || k >= LINES || k == here || lines[k].forkLine != here || !line.isPast(lines[k].forkRound)) {
            return -1;
        }
        Moment fork = line.moments[lines[k].forkRound];
        Moment mine = line.present();
        Moment other = lines[k].present();
        int edition = fork.program.serial;
        if (mine.program.serial != edition || other.program.serial != edition) {
            return -2;
        }
        if (meet(mine, other, fork)) {
            return -3;
        }
        int came = 0;
        for (int p = 0; p < fork.program.predicates; p++) {
            came += fork.program.inputs[p] ? other.differing(fork, p) : 0;
        }
        if (line.changes + came > CHANGES) {
            return -4;
        }
        for (int p = 0; p < fork.program.predicates; p++) {
            if (fork.program.inputs[p]) {
                int target = line.edition == null ? p : line.edition.inputLike(fork.program, p);
                line.addMissing(target, false, fork.rows[p], other.rows[p]);
                line.addMissing(target, true, other.rows[p], fork.rows[p]);
            }
        }
        return came;
    }

    private boolean meet(Moment mine, Moment other, Moment fork) {
        Program program = fork.program;
        for (int p = 0; p < program.predicates; p++) {
            int key = program.keys[p];
            int met = key > 0 ? other.rows[p].meeting(mine.rows[p], fork.rows[p], key) : NONE;
            if (met != NONE) {
                Rows teller = (met & 1) == 1 ? other.rows[p] : fork.rows[p];
                teller.read(met >> 1, metValues);
                metPredicate = p;
                metWidth = key;
                return true;
            }
        }
        return false;
    }

    public long met(int what) throws NoSuchElementException {
        if (metPredicate == NONE || what < 0 || what > metWidth) {
            throw new NoSuchElementException();
        }
        return what == 0 ? metPredicate : metValues[what - 1];
    }

    /** A sign between two values; an ERROR of the first operand that has one is the answer's. */
    private static long reckon(int sign, long a, long b) {
        if (a < -BOUND) {
            return a;
        }
        if (b < -BOUND) {
            return b;
        }
        if (a > BOUND || b > BOUND) {
            return ERROR + ERROR_WORD;
        }
        long result = 0;
        if (sign == '+') {
            result = a + b;
        } else if (sign == '-') {
            result = a - b;
        } else if (sign == '*') {
            if (a != 0 && Math.abs(b) > BOUND / Math.abs(a)) {
                return ERROR + ERROR_BOUND;
            }
            result = a * b;
        } else {
            if (b == 0) {
                return ERROR + ERROR_BOUND;
            }
            result = sign == '/' ? a / b : a % b;
        }
        return result > BOUND || result < -BOUND ? ERROR + ERROR_BOUND : result;
    }

    /** The bytes that were fed, and the TOKENS that they are. */
    private static final class Tape {
        final char[] bytes = new char[TAPE_BYTES];
        int size;
        int tokens;
        final int[] kinds = new int[TAPE_BYTES + 1];
        final int[] starts = new int[TAPE_BYTES + 1];
        final int[] ends = new int[TAPE_BYTES + 1];
        // A NAME's or VARIABLE's signs as one number, a NUMBER's value (one that is out of bounds: above BOUND).
        final long[] codes = new long[TAPE_BYTES + 1];
        // What a TOKEN stands for: a NAME's value as a WORD, the CELL that a VARIABLE is; NONE if there is none.
        final long[] senses = new long[TAPE_BYTES + 1];

        void add(int four) {
            for (int shift = 24; shift >= 0; shift -= 8) {
                if (size < TAPE_BYTES) {
                    bytes[size] = (char) ((four >>> shift) & 255);
                    size++;
                }
            }
        }

        /** What can't be a TOKEN becomes one that can't stand anywhere; END is the last one. */
        void split() {
            tokens = 0;
            int from = skipBlanks(0);
            for (int i = 0; i < TAPE_BYTES && from < size; i++) {
                char sign = bytes[from];
                int to;
                if (isSmall(sign)) {
                    to = addName(from);
                } else if (isGreat(sign)) {
                    to = addVariable(from);
                } else if (isDigit(sign)) {
                    to = addNumber(from);
                } else {
                    to = addSign(from);
                }
                from = skipBlanks(to);
            }
            put(END, size, size, 0);
        }

        private int skipBlanks(int from) {
            boolean remark = false;
            for (int i = from; i < size; i++) {
                char sign = bytes[i];
                boolean blank = sign == 9 || sign == 10 || sign == 13 || sign == 32;
                remark = sign != 10 && (remark || sign == '#');
                if (!blank && !remark) {
                    return i;
                }
            }
            return size;
        }

        private int addName(int from) {
            long code = 0;
            int to = from;
            for (; to < size; to++) {
                char sign = bytes[to];
                int digit = isSmall(sign) ? sign - 'a' + 1
                    : isDigit(sign) ? sign - '0' + 27
                    : sign == '_' ? 37
                    : 0;
                if (digit == 0) {
                    break;
                }
                // Twelve digits to the base 38 fit into a long; longer NAMES are never looked up.
                code = to - from < NAME_SIGNS ? code * 38 + digit : code;
            }
            senses[tokens] = wordOf(from, to - from);
            put(nameKind(from, to), from, to, code);
            return to;
        }

        private int nameKind(int from, int to) {
            return spells(from, to, "input") ? INPUT
                : spells(from, to, "output") ? OUTPUT
                : spells(from, to, "key") ? KEY
                : spells(from, to, "not") ? NOT
                : spells(from, to, "count") ? COUNT
                : spells(from, to, "sum") ? SUM
                : spells(from, to, "least") ? LEAST
                : spells(from, to, "most") ? MOST
                : NAME;
        }

        private boolean spells(int from, int to, String word) {
            if (to - from != word.length()) {
                return false;
            }
            for (int i = 0; i < word.length(); i++) {
                if (bytes[from + i] != word.charAt(i)) {
                    return false;
                }
            }
            return true;
        }

        private int addVariable(int from) {
            long code = 0;
            int to = from;
            for (; to < size; to++) {
                char sign = bytes[to];
                int digit = isGreat(sign) ? sign - 'A' + 1
                    : isSmall(sign) ? sign - 'a' + 27
                    : isDigit(sign) ? sign - '0' + 53
                    : 0;
                if (digit == 0) {
                    break;
                }
                code = to - from < VARIABLE_SIGNS ? code * 63 + digit : code;
            }
            senses[tokens] = cellOf(from, to - from);
            put(VARIABLE, from, to, code);
            return to;
        }

        private int addNumber(int from) {
            long number = bytes[from] - '0';
            int to = from + 1;
            // A 0 is a NUMBER by itself: a digit behind it is another TOKEN.
            for (; number != 0 && to < size && isDigit(bytes[to]); to++) {
                number = Math.min(number * 10 + bytes[to] - '0', BOUND + 1);
            }
            put(NUMBER, from, to, number);
            return to;
        }

        private int addSign(int from) {
            char sign = bytes[from];
            char behind = from + 1 < size ? bytes[from + 1] : 0;
            int pair = sign == ':' && behind == '-' ? IF_SIGN
                : sign == '!' && behind == '=' ? DIFFERENT
                : sign == '<' && behind == '=' ? AT_MOST
                : sign == '>' && behind == '=' ? AT_LEAST
                : NONE;
            if (pair != NONE) {
                put(pair, from, from + 2, 0);
                return from + 2;
            }
            boolean single = sign > 0 && "(),./:+-*%=<>".indexOf(sign) >= 0;
            put(sign == '_' ? ANY : single ? sign : BAD, from, from + 1, 0);
            return from + 1;
        }

        private void put(int kind, int from, int to, long code) {
            kinds[tokens] = kind;
            starts[tokens] = from;
            ends[tokens] = to;
            codes[tokens] = code;
            tokens++;
        }

        private static boolean isSmall(char sign) {
            return sign >= 'a' && sign <= 'z';
        }

        private static boolean isGreat(char sign) {
            return sign >= 'A' && sign <= 'Z';
        }

        private static boolean isDigit(char sign) {
            return sign >= '0' && sign <= '9';
        }

        int lengthOf(int token) {
            return ends[token] - starts[token];
        }

        boolean isIf(int token) {
            return kinds[token] == NAME && spells(starts[token], ends[token], "if");
        }

        boolean digitBehind(int token) {
            int behind = ends[token];
            return behind < size && bytes[behind] >= '0' && bytes[behind] <= '9';
        }

        private long wordOf(int from, int length) {
            long code = 0;
            for (int i = 0; i < WORD_SIGNS; i++) {
                char sign = i < length ? bytes[from + i] : 0;
                if (sign != 0 && !isSmall(sign)) {
                    return NONE;
                }
                code = code * 27 + (sign == 0 ? 0 : sign - 'a' + 1);
            }
            return length > WORD_SIGNS ? NONE : WORDS + code;
        }

        private int cellOf(int from, int length) {
            int column = bytes[from] - 'A';
            if (column >= COLUMNS || length < 2 || length > 3 || bytes[from + 1] == '0') {
                return NONE;
            }
            int row = 0;
            for (int i = 1; i < length; i++) {
                if (!isDigit(bytes[from + i])) {
                    return NONE;
                }
                row = row * 10 + bytes[from + i] - '0';
            }
            return row > CELLS / COLUMNS ? NONE : column + COLUMNS * (row - 1);
        }
    }

    /** Reads the four kinds of texts; what is WRONG ends the reading by an exception, with its place kept. */
    private static final class Reader {
        private final Tape tape;
        private int at;
        // The PLACE at which the text is WRONG, or has its FAULT.
        int place;
        private Program program;
        // Whether the program itself is read, so that its NAMES come by this text.
        private boolean telling;
        Rule rule;
        Formula formula;
        // The code of the EXPRESSIONS of one rule, or of a FORMULA.
        private final int[] ops = new int[TAPE_BYTES + 1];
        private final long[] args = new long[TAPE_BYTES + 1];
        private int used;
        // Signs and brackets that wait for what is behind them; of an if's bracket also the step to mend.
        private final int[] waiting = new int[STACK];
        private final int[] toMend = new int[STACK];
        private int height;
        private final long[] variables = new long[VARIABLES];
        // Each NAME of a predicate in the order of the text; in a CHANGE TEXT each CHANGE.
        int mentions;
        final int[] predicates = new int[MENTIONS];
        final int[] kinds = new int[MENTIONS];
        final int[] places = new int[MENTIONS];
        final int[] widths = new int[MENTIONS];
        final long[] values = new long[WIDTH * MENTIONS];

        Reader(Tape tape) {
            this.tape = tape;
        }

        void readProgram(Program made) {
            begin(made, true);
            for (int i = 0; i <= TAPE_BYTES && tape.kinds[at] != END; i++) {
                int kind = tape.kinds[at];
                if (kind == INPUT) {
                    readInput();
                } else if (kind == OUTPUT) {
                    readOutput();
                } else {
                    readRule();
                }
            }
        }

        void readQuery(Program asked) {
            begin(asked, false);
            beginRule();
            readLiteral();
            for (int i = 0; i <= LITERALS && tape.kinds[at] == ','; i++) {
                advance();
                readLiteral();
            }
            need('.');
            if (tape.kinds[at] != END) {
                wrongAt(tape.starts[at]);
            }
            rule.finish(ops, args, used);
        }

        void readChanges(Program changed) {
            begin(changed, false);
            for (int i = 0; i < MENTIONS && tape.kinds[at] != END; i++) {
                int sign = tape.kinds[at];
                if (sign != '+' && sign != '-') {
                    wrongAt(tape.starts[at]);
                }
                advance();
                int start = tape.starts[at];
                int p = predicateOf(readName(), start);
                need('(');
                int width = 0;
                do {
                    values[WIDTH * i + width] = readValue();
                    width++;
                } while (width < WIDTH && goesOn());
                need(')');
                need('.');
                mention(sign, p, start, width);
            }
        }

        /** The CELL that a CELL TEXT is for. */
        int readCell() {
            begin(null, false);
            // Behind the CELL and its = : the first TOKEN too many can't stand, whatever it is.
            int tooMany = 2 + FORMULA_TOKENS;
            if (tape.tokens - 1 > tooMany) {
                tape.kinds[tooMany] = BAD;
            }
            int cell = readCellName();
            need('=');
            formula = null;
            if (tape.kinds[at] != END) {
                readExpression(true);
                if (tape.kinds[at] != END) {
                    wrongAt(tape.starts[at]);
                }
                formula = new Formula(Arrays.copyOf(ops, used), Arrays.copyOf(args, used));
            }
            return cell;
        }

        private void begin(Program read, boolean told) {
            program = read;
            telling = told;
            at = 0;
            used = 0;
            mentions = 0;
        }

        private void beginRule() {
            rule = new Rule();
            used = 0;
        }

        private void wrongAt(int where) {
            place = where;
            throw new IllegalArgumentException();
        }

        private void advance() {
            if (at < tape.tokens - 1) {
                at++;
            }
        }

        private void need(int kind) {
            if (tape.kinds[at] != kind) {
                wrongAt(tape.starts[at]);
            }
            advance();
        }

        /** Whether a , is here, which is passed then. */
        private boolean goesOn() {
            boolean more = tape.kinds[at] == ',';
            if (more) {
                advance();
            }
            return more;
        }

        private void mention(int kind, int p, int start, int width) {
            if (mentions < MENTIONS) {
                kinds[mentions] = kind;
                predicates[mentions] = p;
                places[mentions] = start;
                widths[mentions] = width;
                mentions++;
            }
        }

        private void readInput() {
            advance();
            int start = tape.starts[at];
            int p = predicateOf(readName(), start);
            need('/');
            int width = readNumber(WIDTH);
            int key = 0;
            if (tape.kinds[at] == KEY) {
                advance();
                key = readNumber(width - 1);
            }
            need('.');
            mention(INPUT, p, start, width);
            program.inputs[p] = true;
            program.keys[p] = key;
            program.tellWidth(p, width);
        }

        private void readOutput() {
            advance();
            int start = tape.starts[at];
            int p = predicateOf(readName(), start);
            need('.');
            mention(OUTPUT, p, start, 0);
            program.outputs[p] = true;
        }

        private void readRule() {
            int start = tape.starts[at];
            if (program.rules == RULES) {
                wrongAt(start);
            }
            beginRule();
            rule.headPlace = start;
            rule.head = predicateOf(readName(), start);
            need('(');
            do {
                readItem();
                rule.items++;
            } while (rule.items < WIDTH && goesOn());
            need(')');
            mention(HEAD, rule.head, start, rule.items);
            program.heads[rule.head] = true;
            program.tellWidth(rule.head, rule.items);
            int joint = IF_SIGN;
            for (int i = 0; i <= LITERALS && tape.kinds[at] == joint; i++) {
                advance();
                readLiteral();
                joint = ',';
            }
            need('.');
            rule.finish(ops, args, used);
            program.list[program.rules] = rule;
            program.rules++;
        }

        private void readItem() {
            int kind = tape.kinds[at];
            if (kind < COUNT || kind > MOST) {
                rule.from[rule.items] = used;
                readExpression(false);
                rule.to[rule.items] = used;
                return;
            }
            if (rule.gather != NONE) {
                wrongAt(tape.starts[at]);
            }
            rule.gather = rule.items;
            rule.gatherKind = kind;
            advance();
            need('(');
            if (kind != COUNT) {
                rule.gatherVariable = readVariable();
            }
            need(')');
        }

        private void readLiteral() {
            int start = tape.starts[at];
            if (rule.literals == LITERALS) {
                wrongAt(start);
            }
            if (tape.kinds[at] == NOT) {
                advance();
                readAtom(NOT);
                return;
            }
            if (tape.kinds[at] == NAME) {
                if (tape.lengthOf(at) > NAME_SIGNS) {
                    wrongAt(start + NAME_SIGNS);
                }
                if (tape.kinds[at + 1] == '(') {
                    if (rule.countAtoms() == ATOMS) {
                        wrongAt(start);
                    }
                    readAtom(ATOM);
                    return;
                }
                // It could still have become an ATOM: what is behind it is what can't stand.
                if (tape.senses[at] == NONE) {
                    wrongAt(tape.starts[at + 1]);
                }
            }
            int left = WIDTH + 2 * rule.literals;
            rule.from[left] = used;
            readExpression(false);
            rule.to[left] = used;
            int sign = tape.kinds[at];
            if (sign != '=' && sign != '<' && sign != '>' && sign != DIFFERENT && sign != AT_MOST && sign != AT_LEAST) {
                wrongAt(tape.starts[at]);
            }
            advance();
            rule.from[left + 1] = used;
            readExpression(false);
            rule.to[left + 1] = used;
            rule.kinds[rule.literals] = sign;
            rule.literals++;
        }

        private void readAtom(int kind) {
            int start = tape.starts[at];
            int p = predicateOf(readName(), start);
            need('(');
            int l = rule.literals;
            int width = 0;
            do {
                int slot = WIDTH * l + width;
                int term = tape.kinds[at];
                rule.termKinds[slot] = term == VARIABLE || term == ANY ? term : NUMBER;
                if (term == ANY) {
                    advance();
                } else {
                    rule.terms[slot] = term == VARIABLE ? readVariable() : readValue();
                }
                width++;
            } while (width < WIDTH && goesOn());
            need(')');
            rule.kinds[l] = kind;
            rule.predicates[l] = p;
            rule.widths[l] = width;
            rule.literals++;
            mention(ATOM, p, start, width);
            if (telling) {
                program.tellWidth(p, width);
            }
        }

        /** A NAME's code. */
        private long readName() {
            int start = tape.starts[at];
            if (tape.kinds[at] != NAME) {
                wrongAt(start);
            }
            if (tape.lengthOf(at) > NAME_SIGNS) {
                wrongAt(start + NAME_SIGNS);
            }
            long name = tape.codes[at];
            advance();
            return name;
        }

        /** The predicate of a NAME; a program's own NAMES come to it, in other texts it may be NONE. */
        private int predicateOf(long name, int start) {
            int p = program.find(name);
            if (p == NONE && telling) {
                if (program.predicates == NAMES) {
                    wrongAt(start);
                }
                p = program.predicates;
                program.names[p] = name;
                program.predicates++;
            }
            return p;
        }

        private int readVariable() {
            int start = tape.starts[at];
            if (tape.kinds[at] != VARIABLE) {
                wrongAt(start);
            }
            if (tape.lengthOf(at) > VARIABLE_SIGNS) {
                wrongAt(start + VARIABLE_SIGNS);
            }
            long name = tape.codes[at];
            int v = 0;
            while (v < rule.variables && variables[v] != name) {
                v++;
            }
            if (v == rule.variables) {
                if (v == VARIABLES) {
                    wrongAt(start);
                }
                variables[v] = name;
                rule.variablePlaces[v] = start;
                rule.variables++;
            }
            advance();
            return v;
        }

        private int readNumber(int most) {
            if (tape.kinds[at] != NUMBER || tape.codes[at] < 1 || tape.codes[at] > most) {
                wrongAt(tape.starts[at]);
            }
            int number = (int) tape.codes[at];
            advance();
            return number;
        }

        private long readValue() {
            boolean word = tape.kinds[at] == NAME && tape.senses[at] != NONE;
            boolean minus = tape.kinds[at] == '-' && tape.digitBehind(at);
            if (minus) {
                advance();
            }
            if (!word && (tape.kinds[at] != NUMBER || tape.codes[at] > BOUND)) {
                wrongAt(tape.starts[at]);
            }
            long told = word ? tape.senses[at] : tape.codes[at];
            advance();
            return minus ? -told : told;
        }

        private int readCellName() {
            if (tape.kinds[at] != VARIABLE || tape.senses[at] == NONE) {
                wrongAt(tape.starts[at]);
            }
            int cell = (int) tape.senses[at];
            advance();
            return cell;
        }

        /** An EXPRESSION or FORMULA up to what can't belong to it, as code: operands ahead of their sign. */
        private void readExpression(boolean sheet) {
            height = 0;
            boolean wanted = true;
            for (int i = 0; i <= TAPE_BYTES; i++) {
                int kind = tape.kinds[at];
                if (wanted && (kind == '(' || sheet && tape.isIf(at))) {
                    openBracket(kind);
                } else if (wanted) {
                    if (sheet && kind >= COUNT && kind <= MOST) {
                        readGathering(kind);
                    } else if (kind == VARIABLE) {
                        emit(PUT_VARIABLE, sheet ? readCellName() : readVariable());
                    } else {
                        emit(PUT_VALUE, readValue());
                    }
                    wanted = false;
                } else if (strength(kind) > 0) {
                    settleSigns(strength(kind));
                    push(kind);
                    advance();
                    wanted = true;
                } else {
                    settleSigns(1);
                    if (height == 0) {
                        break;
                    }
                    wanted = passPart(kind);
                    advance();
                }
            }
        }

        /** sum, count, least, most of a FORMULA, with what is in their brackets. */
        private void readGathering(int kind) {
            advance();
            if (countBrackets() == BRACKETS) {
                wrongAt(tape.starts[at]);
            }
            need('(');
            if (tape.kinds[at] == VARIABLE && (kind == SUM || kind == COUNT)) {
                int first = readCellName();
                need(':');
                int start = tape.starts[at];
                int second = readCellName();
                if (second % COLUMNS < first % COLUMNS || second / COLUMNS < first / COLUMNS) {
                    wrongAt(start);
                }
                emit(kind == SUM ? CELLS_SUM : CELLS_COUNT, first + CELLS * second);
            } else {
                long name = readName();
                int column = 0;
                if (kind != COUNT) {
                    need(',');
                    column = readNumber(WIDTH);
                }
                // The steps for rows are numbered as the TOKENS; the column stands above them.
                emit(kind | column << 8, name);
            }
            need(')');
        }

        private static int strength(int sign) {
            if (sign == '*' || sign == '/' || sign == '%') {
                return 2;
            }
            return sign == '+' || sign == '-' ? 1 : 0;
        }

        private void emit(int op, long arg) {
            if (used < ops.length) {
                ops[used] = op;
                args[used] = arg;
                used++;
            }
        }

        private void push(int what) {
            if (height < STACK) {
                waiting[height] = what;
                height++;
            }
        }

        private int countBrackets() {
            int brackets = 0;
            for (int i = 0; i < height; i++) {
                brackets += strength(waiting[i]) == 0 ? 1 : 0;
            }
            return brackets;
        }

        /** Signs that are at least so strong have both their operands now. */
        private void settleSigns(int least) {
            while (height > 0 && strength(waiting[height - 1]) >= least) {
                height--;
                emit(waiting[height], 0);
            }
        }

        private void openBracket(int kind) {
            boolean plain = kind == '(';
            if (!plain) {
                advance();
            }
            if (tape.kinds[at] != '(' || countBrackets() == BRACKETS) {
                wrongAt(tape.starts[at]);
            }
            advance();
            push(plain ? PLAIN_PART : IF_FIRST);
        }

        /** A , or ) behind a part of the innermost bracket: whether another part must come. */
        private boolean passPart(int kind) {
            int top = height - 1;
            int part = top >= 0 ? waiting[top] : 0;
            boolean last = part == PLAIN_PART || part == IF_THIRD;
            if (kind != (last ? ')' : ',')) {
                wrongAt(tape.starts[at]);
            }
            if (part == IF_FIRST) {
                toMend[top] = used;
                emit(TEST, 0);
            } else if (part == IF_SECOND) {
                // The third part stands behind the step that leads from the second one to the end.
                args[toMend[top]] = used + 1;
                toMend[top] = used;
                emit(JUMP, 0);
            } else if (part == IF_THIRD) {
                args[toMend[top]] = used;
            }
            if (last) {
                height--;
            } else {
                waiting[top] = part + 1;
            }
            return !last;
        }

        /** The kind of the FAULT of the program that was read, 0 without one. */
        int programFault() {
            place = toldTwice();
            if (place != NONE) {
                return 1;
            }
            place = unknownName();
            if (place != NONE) {
                return 2;
            }
            place = otherWidth();
            if (place != NONE) {
                return 3;
            }
            for (int r = 0; r < program.rules; r++) {
                place = program.list[r].unsafePlace();
                if (place != NONE) {
                    return 4;
                }
            }
            program.arrange();
            place = program.ringFault();
            return place != NONE ? 5 : 0;
        }

        int queryFault() {
            place = unknownName();
            if (place != NONE) {
                return 2;
            }
            place = otherWidth();
            if (place != NONE) {
                return 3;
            }
            place = rule.unsafePlace();
            return place != NONE ? 4 : 0;
        }

        int changesFault() {
            for (int i = 0; i < mentions; i++) {
                int p = predicates[i];
                place = places[i];
                if (p == NONE || !program.inputs[p]) {
                    return 2;
                }
                if (program.widths[p] != widths[i]) {
                    return 3;
                }
            }
            return 0;
        }

        private int toldTwice() {
            int[] told = new int[NAMES];
            for (int i = 0; i < mentions; i++) {
                int kind = kinds[i];
                int rivals = kind == INPUT ? 1 << INPUT | 1 << HEAD
                    : kind == OUTPUT ? 1 << OUTPUT
                    : kind == HEAD ? 1 << INPUT
                    : 0;
                if ((told[predicates[i]] & rivals) != 0) {
                    return places[i];
                }
                told[predicates[i]] |= 1 << kind;
            }
            return NONE;
        }

        private int unknownName() {
            for (int i = 0; i < mentions; i++) {
                int p = predicates[i];
                if (p == NONE || !program.inputs[p] && !program.heads[p]) {
                    return places[i];
                }
            }
            return NONE;
        }

        private int otherWidth() {
            for (int i = 0; i < mentions; i++) {
                if (kinds[i] != OUTPUT && widths[i] != program.widths[predicates[i]]) {
                    return places[i];
                }
            }
            return NONE;
        }
    }

    /** A rule, or a QUERY (one without a HEAD). Its EXPRESSIONS: the ITEMS', then both sides of each LITERAL. */
    private static final class Rule {
        int head = NONE;
        int headPlace;
        int items;
        int gather = NONE;
        int gatherKind;
        int gatherVariable;
        int variables;
        final int[] variablePlaces = new int[VARIABLES];
        int literals;
        final int[] kinds = new int[LITERALS];
        final int[] predicates = new int[LITERALS];
        final int[] widths = new int[LITERALS];
        final int[] termKinds = new int[WIDTH * LITERALS];
        final long[] terms = new long[WIDTH * LITERALS];
        final int[] from = new int[WIDTH + 2 * LITERALS];
        final int[] to = new int[WIDTH + 2 * LITERALS];
        int[] ops;
        long[] args;
        // The LITERALS in the order in which WAYS look at them.
        final int[] plan = new int[LITERALS];
        // Behind each step of the plan: the VARIABLES that later steps or the HEAD still ask for.
        final int[] later = new int[LITERALS];

        void finish(int[] allOps, long[] allArgs, int used) {
            ops = Arrays.copyOf(allOps, used);
            args = Arrays.copyOf(allArgs, used);
            makePlan();
        }

        int countAtoms() {
            int atoms = 0;
            for (int l = 0; l < literals; l++) {
                atoms += kinds[l] == ATOM ? 1 : 0;
            }
            return atoms;
        }

        boolean isAtom(int l) {
            return kinds[l] == ATOM || kinds[l] == NOT;
        }

        /** The VARIABLE that an EXPRESSION is alone; NONE if it is none. */
        int loneVariable(int slot) {
            boolean lone = to[slot] - from[slot] == 1 && ops[from[slot]] == PUT_VARIABLE;
            return lone ? (int) args[from[slot]] : NONE;
        }

        private int variablesOf(int slot) {
            int mask = 0;
            for (int i = from[slot]; i < to[slot]; i++) {
                if (ops[i] == PUT_VARIABLE) {
                    mask |= 1 << (int) args[i];
                }
            }
            return mask;
        }

        private int variablesIn(int l) {
            if (!isAtom(l)) {
                return variablesOf(WIDTH + 2 * l) | variablesOf(WIDTH + 2 * l + 1);
            }
            int mask = 0;
            for (int c = 0; c < widths[l]; c++) {
                if (termKinds[WIDTH * l + c] == VARIABLE) {
                    mask |= 1 << (int) terms[WIDTH * l + c];
                }
            }
            return mask;
        }

        /** What is BOUND behind a LITERAL; NONE if too little is bound ahead of it. */
        private int boundBehind(int l, int bound) {
            int all = variablesIn(l);
            if (kinds[l] == ATOM || (all & ~bound) == 0) {
                return bound | all;
            }
            if (kinds[l] != '=') {
                return NONE;
            }
            int left = WIDTH + 2 * l;
            int right = left + 1;
            boolean binds = loneVariable(left) != NONE && (variablesOf(right) & ~bound) == 0
                || loneVariable(right) != NONE && (variablesOf(left) & ~bound) == 0;
            return binds ? bound | all : NONE;
        }

        int unsafePlace() {
            int bound = 0;
            // Each turn binds a VARIABLE more, or none ever will.
            for (int turn = 0; turn <= VARIABLES; turn++) {
                for (int l = 0; l < literals; l++) {
                    int behind = boundBehind(l, bound);
                    bound = behind == NONE ? bound : behind;
                }
            }
            for (int v = 0; v < variables; v++) {
                if ((bound >> v & 1) == 0) {
                    return variablePlaces[v];
                }
            }
            return NONE;
        }

        /** Tests as early as they can be made, and the ATOM next that has most of its first columns bound. */
        private void makePlan() {
            int placed = 0;
            int bound = 0;
            for (int step = 0; step < literals; step++) {
                int best = NONE;
                int bestColumns = NONE;
                for (int l = 0; l < literals; l++) {
                    if ((placed >> l & 1) == 0 && boundBehind(l, bound) != NONE) {
                        int columns = kinds[l] == ATOM ? columnsBound(l, bound) : WIDTH + 1;
                        if (columns > bestColumns) {
                            best = l;
                            bestColumns = columns;
                        }
                    }
                }
                // None is left over but in an UNSAFE rule, whose plan is never used.
                if (best != NONE) {
                    plan[step] = best;
                    placed |= 1 << best;
                    bound = boundBehind(best, bound);
                }
            }
            int asked = 0;
            for (int c = 0; c < items; c++) {
                asked |= variablesOf(c);
            }
            for (int step = literals - 1; step >= 0; step--) {
                later[step] = asked;
                asked |= variablesIn(plan[step]);
            }
        }

        private int columnsBound(int l, int bound) {
            int columns = 0;
            for (int c = 0; c < widths[l]; c++) {
                int kind = termKinds[WIDTH * l + c];
                if (kind == ANY || kind == VARIABLE && (bound >> (int) terms[WIDTH * l + c] & 1) == 0) {
                    break;
                }
                columns++;
            }
            return columns;
        }
    }

    /** An EDITION. */
    private static final class Program {
        // Tells EDITIONS apart, those of the same text too.
        final int serial;
        int predicates;
        final long[] names = new long[NAMES];
        final int[] widths = new int[NAMES];
        final int[] keys = new int[NAMES];
        final boolean[] inputs = new boolean[NAMES];
        final boolean[] outputs = new boolean[NAMES];
        final boolean[] heads = new boolean[NAMES];
        int rules;
        final Rule[] list = new Rule[RULES];
        final int[] rings = new int[NAMES];
        // The RINGS, each behind all that it reads, by their least predicates.
        final int[] order = new int[NAMES];
        int ringCount;
        private final int[] reads = new int[NAMES];

        Program(int serial) {
            this.serial = serial;
        }

        int find(long name) {
            for (int p = 0; p < predicates; p++) {
                if (names[p] == name) {
                    return p;
                }
            }
            return NONE;
        }

        /** The predicate of the same NAME and n as one of another program; NONE if there is none. */
        int like(Program other, int p) {
            int same = find(other.names[p]);
            return same != NONE && widths[same] == other.widths[p] ? same : NONE;
        }

        int inputLike(Program other, int p) {
            int same = like(other, p);
            return same != NONE && inputs[same] ? same : NONE;
        }

        void tellWidth(int p, int width) {
            if (widths[p] == 0) {
                widths[p] = width;
            }
        }

        void arrange() {
            for (int r = 0; r < rules; r++) {
                Rule rule = list[r];
                for (int l = 0; l < rule.literals; l++) {
                    if (rule.isAtom(l)) {
                        reads[rule.head] |= 1 << rule.predicates[l];
                    }
                }
            }
            int[] reach = reads.clone();
            for (int via = 0; via < predicates; via++) {
                for (int p = 0; p < predicates; p++) {
                    if ((reach[p] >> via & 1) == 1) {
                        reach[p] |= reach[via];
                    }
                }
            }
            for (int p = 0; p < predicates; p++) {
                rings[p] = p;
                for (int q = p - 1; q >= 0; q--) {
                    if ((reach[p] >> q & 1) == 1 && (reach[q] >> p & 1) == 1) {
                        rings[p] = q;
                    }
                }
            }
            orderRings();
        }

        private void orderRings() {
            int done = 0;
            for (int turn = 0; turn < predicates; turn++) {
                for (int p = 0; p < predicates; p++) {
                    boolean open = rings[p] == p && (done >> p & 1) == 0;
                    if (open && (readsOf(p) & ~done) == 0) {
                        order[ringCount] = p;
                        ringCount++;
                        done |= membersOf(p);
                    }
                }
            }
        }

        int membersOf(int ring) {
            int mask = 0;
            for (int p = 0; p < predicates; p++) {
                mask |= rings[p] == ring ? 1 << p : 0;
            }
            return mask;
        }

        /** What a RING reads outside itself. */
        int readsOf(int ring) {
            int mask = 0;
            for (int p = 0; p < predicates; p++) {
                mask |= rings[p] == ring ? reads[p] : 0;
            }
            return mask & ~membersOf(ring);
        }

        int ringFault() {
            for (int r = 0; r < rules; r++) {
                Rule rule = list[r];
                for (int l = 0; l < rule.literals; l++) {
                    boolean strict = rule.kinds[l] == NOT || rule.kinds[l] == ATOM && rule.gather != NONE;
                    if (strict && rings[rule.predicates[l]] == rings[rule.head]) {
                        return rule.headPlace;
                    }
                }
            }
            return NONE;
        }
    }

    /** Rows in THE ORDER with their RANKS. Those of a moment are never changed; others are used again. */
    private static final class Rows {
        int width;
        int size;
        private final long[] cells;
        final int[] ranks;

        Rows(int width, int capacity) {
            this.width = width;
            cells = new long[width * capacity];
            ranks = new int[capacity];
        }

        void start(int newWidth) {
            width = newWidth;
            size = 0;
        }

        long at(int i, int column) {
            return cells[i * width + column];
        }

        /** How a row's first values stand to a key's. */
        int compare(int i, long[] key, int columns) {
            for (int c = 0; c < columns; c++) {
                long own = cells[i * width + c];
                if (own != key[c]) {
                    return own < key[c] ? -1 : 1;
                }
            }
            return 0;
        }

        /** How a row's first values stand to those of another's row. */
        int compareRow(int i, Rows other, int j, int columns) {
            for (int c = 0; c < columns; c++) {
                long own = cells[i * width + c];
                long others = other.cells[j * other.width + c];
                if (own != others) {
                    return own < others ? -1 : 1;
                }
            }
            return 0;
        }

        /** The first row whose first values are not below the key's, or, with above 1, are above them. */
        int search(long[] key, int columns, int above) {
            int low = 0;
            int high = size;
            while (low < high) {
                int middle = (low + high) >>> 1;
                if (compare(middle, key, columns) < above) {
                    low = middle + 1;
                } else {
                    high = middle;
                }
            }
            return low;
        }

        /** A row's place, or -1 less the place at which it would stand. */
        int find(long[] row) {
            int place = search(row, width, 0);
            return place < size && compare(place, row, width) == 0 ? place : -1 - place;
        }

        /** The row with these first values; NONE if there is none. */
        int findKey(long[] key, int columns) {
            int place = search(key, columns, 0);
            return place < size && compare(place, key, columns) == 0 ? place : NONE;
        }

        void insert(int place, long[] row, int rank) {
            if (size >= ranks.length || place < 0 || place > size) {
                return;
            }
            System.arraycopy(cells, place * width, cells, (place + 1) * width, (size - place) * width);
            System.arraycopy(ranks, place, ranks, place + 1, size - place);
            System.arraycopy(row, 0, cells, place * width, width);
            ranks[place] = rank;
            size++;
        }

        void remove(int place) {
            if (place < 0 || place >= size) {
                return;
            }
            int behind = size - place - 1;
            System.arraycopy(cells, (place + 1) * width, cells, place * width, behind * width);
            System.arraycopy(ranks, place + 1, ranks, place, behind);
            size--;
        }

        void read(int i, long[] row) {
            System.arraycopy(cells, i * width, row, 0, width);
        }

        void copyFrom(Rows other) {
            start(other.width);
            size = Math.min(other.size, ranks.length);
            System.arraycopy(other.cells, 0, cells, 0, size * width);
            System.arraycopy(other.ranks, 0, ranks, 0, size);
        }

        Rows frozen() {
            Rows copy = new Rows(width, size);
            copy.copyFrom(this);
            return copy;
        }

        boolean sameRows(Rows other) {
            if (size != other.size) {
                return false;
            }
            for (int i = 0; i < size; i++) {
                if (compareRow(i, other, i, width) != 0) {
                    return false;
                }
            }
            return true;
        }

        boolean sameRanks(Rows other) {
            for (int i = 0; i < size; i++) {
                if (i >= other.size || ranks[i] != other.ranks[i]) {
                    return false;
                }
            }
            return true;
        }

        /** How many rows came or went since. */
        int differing(Rows ahead) {
            int same = 0;
            int j = 0;
            for (int i = 0; i < size; i++) {
                while (j < ahead.size && ahead.compareRow(j, this, i, width) < 0) {
                    j++;
                }
                same += j < ahead.size && ahead.compareRow(j, this, i, width) == 0 ? 1 : 0;
            }
            return size + ahead.size - 2 * same;
        }

        /** The n-th row that came (twice its place, and 1) or went (twice its place ahead); NONE behind the last. */
        int difference(Rows ahead, int n) {
            int left = n;
            int i = 0;
            int j = 0;
            while (i < size || j < ahead.size) {
                int order = i >= size ? 1 : j >= ahead.size ? -1 : compareRow(i, ahead, j, width);
                if (order != 0 && left == 0) {
                    return order < 0 ? 2 * i + 1 : 2 * j;
                }
                left -= order != 0 ? 1 : 0;
                i += order <= 0 ? 1 : 0;
                j += order >= 0 ? 1 : 0;
            }
            return NONE;
        }

        /**
         * Where these rows and another line's are both others than the fork's for one key, and not the same:
         * the first such row here (twice its place, and 1) or at the fork (twice its place); NONE if nowhere.
         */
        int meeting(Rows others, Rows fork, int key) {
            long[] first = new long[WIDTH];
            int i = 0;
            int j = 0;
            while (i < size || j < fork.size) {
                int order = i >= size ? 1 : j >= fork.size ? -1 : compareRow(i, fork, j, key);
                int own = order <= 0 ? i : NONE;
                int old = order >= 0 ? j : NONE;
                if (own != NONE) {
                    read(own, first);
                } else {
                    fork.read(old, first);
                }
                int other = others.findKey(first, key);
                if (!isRow(own, fork, old) && !others.isRow(other, fork, old) && !isRow(own, others, other)) {
                    return own != NONE ? 2 * own + 1 : 2 * old;
                }
                i += order <= 0 ? 1 : 0;
                j += order >= 0 ? 1 : 0;
            }
            return NONE;
        }

        private boolean isRow(int i, Rows other, int j) {
            if (i == NONE || j == NONE) {
                return i == j;
            }
            return compareRow(i, other, j, width) == 0;
        }
    }

    /** Finds the WAYS of a rule or query over rows, one at each call of next(). */
    private static final class Ways {
        final long[] values = new long[VARIABLES];
        // Which RANKS the row of each LITERAL may have.
        final int[] low = new int[LITERALS];
        final int[] high = new int[LITERALS];
        private Rule rule;
        private Rows[] facts;
        // One WAY may stand for all that give the same HEAD; else each WAY comes just once.
        private boolean brief;
        private int step;
        private boolean forward;
        // Which VARIABLES are bound ahead of each step, and the rows that it has still to look at.
        private final int[] bound = new int[LITERALS + 1];
        private final int[] first = new int[LITERALS];
        private final int[] cursor = new int[LITERALS];
        private final int[] last = new int[LITERALS];
        private final long[] key = new long[WIDTH];
        private final long[] stack = new long[STACK];

        void open(Rule opened, Rows[] over, boolean briefly) {
            rule = opened;
            facts = over;
            brief = briefly;
            step = 0;
            forward = true;
            bound[0] = 0;
            Arrays.fill(low, 0);
            Arrays.fill(high, LEVELS);
        }

        /** Asks for the WAYS with this value alone; false if the VARIABLE has another one already. */
        boolean fix(int variable, long value) {
            if ((bound[0] >> variable & 1) == 1) {
                return values[variable] == value;
            }
            values[variable] = value;
            bound[0] |= 1 << variable;
            return true;
        }

        boolean next() {
            for (int i = 0; i < MANY_STEPS && step >= 0; i++) {
                if (step == rule.literals) {
                    step--;
                    forward = false;
                    return true;
                }
                int l = rule.plan[step];
                if (rule.kinds[l] == ATOM) {
                    if (forward) {
                        findRange(l);
                    }
                    forward = (forward || hasMore()) && nextRow(l);
                } else {
                    bound[step + 1] = bound[step];
                    forward = forward && (rule.kinds[l] == NOT ? hasNone(l) : compares(l));
                }
                step += forward ? 1 : -1;
            }
            return false;
        }

        /** Another row makes another WAY only if it binds something (that is still asked for). */
        private boolean hasMore() {
            int own = bound[step + 1] & ~bound[step];
            return (brief ? own & rule.later[step] : own) != 0;
        }

        /** The rows that have the values of the first columns, as far as these are bound. */
        private void findRange(int l) {
            int columns = 0;
            for (; columns < rule.widths[l]; columns++) {
                int slot = WIDTH * l + columns;
                int kind = rule.termKinds[slot];
                boolean open = kind == VARIABLE && (bound[step] >> (int) rule.terms[slot] & 1) == 0;
                if (kind == ANY || open) {
                    break;
                }
                key[columns] = kind == VARIABLE ? values[(int) rule.terms[slot]] : rule.terms[slot];
            }
            Rows rows = facts[rule.predicates[l]];
            first[step] = rows.search(key, columns, 0);
            last[step] = rows.search(key, columns, 1);
            cursor[step] = first[step];
        }

        private boolean nextRow(int l) {
            Rows rows = facts[rule.predicates[l]];
            for (int i = cursor[step]; i < last[step]; i++) {
                int behind = match(l, rows, i);
                if (behind != NONE && (brief || behind == bound[step] || !isRepeated(l, rows, i))) {
                    cursor[step] = i + 1;
                    bound[step + 1] = behind;
                    return true;
                }
            }
            return false;
        }

        /** What is bound behind a row that fits; NONE if it doesn't. */
        private int match(int l, Rows rows, int i) {
            int mask = bound[step];
            if (rows.ranks[i] < low[l] || rows.ranks[i] > high[l]) {
                return NONE;
            }
            for (int c = 0; c < rule.widths[l]; c++) {
                int kind = rule.termKinds[WIDTH * l + c];
                long told = rule.terms[WIDTH * l + c];
                long own = rows.at(i, c);
                if (kind == NUMBER && told != own) {
                    return NONE;
                }
                if (kind == VARIABLE) {
                    int v = (int) told;
                    if ((mask >> v & 1) == 1 && values[v] != own) {
                        return NONE;
                    }
                    values[v] = own;
                    mask |= 1 << v;
                }
            }
            return mask;
        }

        /** Whether an earlier row is another one by what stands for _ alone: it has made this WAY already. */
        private boolean isRepeated(int l, Rows rows, int i) {
            boolean any = false;
            for (int c = 0; c < rule.widths[l]; c++) {
                any |= rule.termKinds[WIDTH * l + c] == ANY;
            }
            for (int j = i - 1; any && j >= first[step]; j--) {
                boolean same = rows.ranks[j] >= low[l] && rows.ranks[j] <= high[l];
                for (int c = 0; same && c < rule.widths[l]; c++) {
                    same = rule.termKinds[WIDTH * l + c] == ANY || rows.at(i, c) == rows.at(j, c);
                }
                if (same) {
                    return true;
                }
            }
            return false;
        }

        private boolean hasNone(int l) {
            findRange(l);
            Rows rows = facts[rule.predicates[l]];
            for (int i = first[step]; i < last[step]; i++) {
                if (match(l, rows, i) != NONE) {
                    return false;
                }
            }
            return true;
        }

        private boolean compares(int l) {
            int left = WIDTH + 2 * l;
            int right = left + 1;
            int kind = rule.kinds[l];
            if (kind == '=') {
                int lone = openVariable(left);
                int side = right;
                if (lone == NONE) {
                    lone = openVariable(right);
                    side = left;
                }
                if (lone != NONE) {
                    values[lone] = worth(side);
                    bound[step + 1] |= 1 << lone;
                    return values[lone] >= -BOUND;
                }
            }
            long a = worth(left);
            long b = worth(right);
            if (a < -BOUND || b < -BOUND) {
                return false;
            }
            return kind == '=' ? a == b : kind == DIFFERENT ? a != b : kind == '<' ? a < b
                : kind == AT_MOST ? a <= b : kind == '>' ? a > b : a >= b;
        }

        private int openVariable(int slot) {
            int lone = rule.loneVariable(slot);
            return lone != NONE && (bound[step] >> lone & 1) == 0 ? lone : NONE;
        }

        /** An EXPRESSION's value; below all numbers if it has none. */
        private long worth(int slot) {
            int height = 0;
            for (int i = rule.from[slot]; i < rule.to[slot]; i++) {
                int op = rule.ops[i];
                if (op == PUT_VALUE || op == PUT_VARIABLE) {
                    if (height < STACK) {
                        stack[height] = op == PUT_VALUE ? rule.args[i] : values[(int) rule.args[i]];
                        height++;
                    }
                } else if (height > 1) {
                    height--;
                    stack[height - 1] = reckon(op, stack[height - 1], stack[height]);
                }
            }
            return stack[0];
        }

        /** The row of the HEAD, with 0 for what is gathered; false if an ITEM has no value. */
        boolean headRow(long[] row) {
            for (int c = 0; c < rule.items; c++) {
                row[c] = c == rule.gather ? 0 : worth(c);
                if (row[c] < -BOUND) {
                    return false;
                }
            }
            return true;
        }

        /** The place of the first row that is this ATOM with these values of all VARIABLES. */
        int rowOf(int l, long[] told) {
            step = 0;
            bound[0] = (1 << VARIABLES) - 1;
            System.arraycopy(told, 0, values, 0, VARIABLES);
            findRange(l);
            Rows rows = facts[rule.predicates[l]];
            for (int i = first[0]; i < last[0]; i++) {
                if (match(l, rows, i) != NONE) {
                    return i;
                }
            }
            return NONE;
        }
    }

    /** Works out what a round makes of a line's FACTS, and why a row is there. */
    private static final class Works {
        private final Ways ways;
        private Program program;
        // The rows as they are now; those of same NAME and n ahead of the round; and what is made of them.
        private final Rows[] facts = new Rows[NAMES];
        private final Rows[] ahead = new Rows[NAMES];
        private final Rows[] made = new Rows[NAMES];
        private final Rows[] fresh = new Rows[NAMES];
        private final Rows[] empty = new Rows[WIDTH + 1];
        private final Rows loose = new Rows(WIDTH, LOOSE_ROWS);
        private final long[] gathered = new long[LOOSE_ROWS];
        private final long[] row = new long[WIDTH];
        private final long[] floor = new long[WIDTH];
        private final long[] given = new long[WIDTH];
        private final long[] best = new long[VARIABLES];
        int changed;
        int worked;
        private int comers;
        int reasonRule;
        final int[] reasonRows = new int[ATOMS];

        Works(Ways ways) {
            this.ways = ways;
            for (int p = 0; p < NAMES; p++) {
                made[p] = new Rows(WIDTH, ROWS);
                fresh[p] = new Rows(WIDTH, ROWS);
            }
            for (int width = 1; width <= WIDTH; width++) {
                empty[width] = new Rows(width, 0);
            }
        }

        /** INPUTS of the same NAME, n and k keep their rows. */
        void begin(Moment old, Program next) {
            program = next;
            changed = 0;
            worked = 0;
            boolean taken = next.serial != old.program.serial;
            for (int p = 0; p < next.predicates; p++) {
                int same = taken ? old.program.like(next, p) : p;
                Rows none = empty[next.widths[p]];
                ahead[p] = same == NONE ? none : old.rows[same];
                boolean kept = !taken || same != NONE && next.inputs[p] && old.program.inputs[same]
                    && next.keys[p] == old.program.keys[same];
                facts[p] = kept ? ahead[p] : none;
            }
        }

        /** The CHANGES; false if an INPUT passes the LIMIT by them. */
        boolean tell(Line line) {
            for (int p = 0; p < program.predicates; p++) {
                boolean touched = false;
                for (int i = 0; i < line.changes; i++) {
                    if (line.changePredicates[i] == p) {
                        if (!touched) {
                            loose.copyFrom(facts[p]);
                            touched = true;
                        }
                        System.arraycopy(line.changeValues, WIDTH * i, row, 0, WIDTH);
                        changeLoose(line.changeAdds[i], program.keys[p]);
                    }
                }
                if (touched) {
                    if (loose.size > ROWS) {
                        return false;
                    }
                    made[p].copyFrom(loose);
                    facts[p] = made[p];
                }
                if (program.inputs[p]) {
                    noteChanged(p);
                }
            }
            return true;
        }

        private void changeLoose(boolean adds, int key) {
            int place = loose.find(row);
            if (!adds) {
                loose.remove(place);
                return;
            }
            if (place < 0 && key > 0) {
                loose.remove(loose.findKey(row, key));
                place = loose.find(row);
            }
            if (place < 0) {
                loose.insert(-1 - place, row, 0);
            }
        }

        private void noteChanged(int p) {
            changed |= facts[p].sameRows(ahead[p]) ? 0 : 1 << p;
        }

        /**
         * Works a RING, if it must be worked; false if it passes the LIMIT. Level by level, so that a row's
         * level is its RANK; each level looks at WAYS with a row of the one before.
         */
        boolean workRing(int ring, boolean taken) {
            if (program.inputs[ring] || !taken && (program.readsOf(ring) & changed) == 0) {
                return true;
            }
            int members = program.membersOf(ring);
            worked |= members;
            startRing(ring);
            comers = 1;
            for (int level = 1; level <= LEVELS && comers > 0; level++) {
                comers = 0;
                for (int r = 0; r < program.rules; r++) {
                    Rule rule = program.list[r];
                    int leaders = program.rings[rule.head] == ring ? leadersOf(rule, members, level) : 0;
                    for (int l = 0; l < LITERALS; l++) {
                        if ((leaders >> l & 1) == 1) {
                            openLevel(rule, members, level, l);
                            if (!(rule.gather == NONE ? derive(rule) : gather(rule))) {
                                return false;
                            }
                        }
                    }
                }
                takeFresh(ring, level);
            }
            for (int p = 0; p < program.predicates; p++) {
                if (program.rings[p] == ring) {
                    noteChanged(p);
                }
            }
            return true;
        }

        private void startRing(int ring) {
            for (int p = 0; p < program.predicates; p++) {
                if (program.rings[p] == ring) {
                    made[p].start(program.widths[p]);
                    fresh[p].start(program.widths[p]);
                    facts[p] = made[p];
                }
            }
        }

        /** The LITERALS whose rows must be of the level before, one after another; bit 0 if a rule asks for none. */
        private int leadersOf(Rule rule, int members, int level) {
            int own = 0;
            for (int l = 0; l < rule.literals; l++) {
                own |= isOwn(rule, l, members) ? 1 << l : 0;
            }
            if (own == 0) {
                return level == 1 ? 1 : 0;
            }
            return level == 1 ? 0 : own;
        }

        private static boolean isOwn(Rule rule, int l, int members) {
            return rule.kinds[l] == ATOM && (members >> rule.predicates[l] & 1) == 1;
        }

        private void openLevel(Rule rule, int members, int level, int leader) {
            ways.open(rule, facts, true);
            for (int l = 0; l < rule.literals; l++) {
                if (isOwn(rule, l, members)) {
                    ways.low[l] = l == leader ? level - 1 : 0;
                    ways.high[l] = l < leader ? level - 2 : level - 1;
                }
            }
        }

        private void takeFresh(int ring, int level) {
            for (int p = 0; p < program.predicates; p++) {
                if (program.rings[p] == ring) {
                    for (int i = 0; i < fresh[p].size; i++) {
                        fresh[p].read(i, row);
                        made[p].insert(-1 - made[p].find(row), row, level);
                    }
                    fresh[p].size = 0;
                }
            }
        }

        private boolean derive(Rule rule) {
            for (int i = 0; i < MANY_WAYS && ways.next(); i++) {
                if (ways.headRow(row) && !give(rule.head, row)) {
                    return false;
                }
            }
            return true;
        }

        /** A row of this level; false if it passes the LIMIT. */
        private boolean give(int p, long[] told) {
            int place = fresh[p].find(told);
            if (place >= 0 || made[p].find(told) >= 0) {
                return true;
            }
            if (made[p].size + fresh[p].size >= ROWS) {
                return false;
            }
            fresh[p].insert(-1 - place, told, 0);
            comers++;
            return true;
        }

        /**
         * A GATHERING rule. Sums out of bounds give no row, so there may be more groups than rows: the
         * least groups first, as many as there is place for, and the others behind them by further turns.
         */
        private boolean gather(Rule rule) {
            boolean more = true;
            for (int turn = 0; turn < MANY_WAYS && more; turn++) {
                more = false;
                loose.start(rule.items);
                ways.open(rule, facts, false);
                for (int i = 0; i < MANY_WAYS && ways.next(); i++) {
                    long told = rule.gatherKind == COUNT ? 1 : ways.values[rule.gatherVariable];
                    boolean left = rule.gatherKind == SUM && told > BOUND;
                    if (!left && ways.headRow(row) && (turn == 0 || isAboveFloor(rule.items))) {
                        more |= !addToGroup(rule, told);
                        if (more && rule.gatherKind != SUM) {
                            return false;
                        }
                    }
                }
                if (!giveGroups(rule)) {
                    return false;
                }
            }
            return true;
        }

        private boolean isAboveFloor(int width) {
            for (int c = 0; c < width; c++) {
                if (row[c] != floor[c]) {
                    return row[c] > floor[c];
                }
            }
            return false;
        }

        /** False if a group had to be left to a later turn. A group's RANK is where its gathered value stands. */
        private boolean addToGroup(Rule rule, long told) {
            int place = loose.find(row);
            if (place >= 0) {
                int slot = loose.ranks[place];
                gathered[slot] = gatherTwo(rule.gatherKind, gathered[slot], told);
                return true;
            }
            place = -1 - place;
            boolean full = loose.size == LOOSE_ROWS;
            if (full && place == loose.size) {
                return false;
            }
            int slot = full ? loose.ranks[loose.size - 1] : loose.size;
            if (full) {
                loose.remove(loose.size - 1);
            }
            loose.insert(place, row, slot);
            gathered[slot] = told;
            return !full;
        }

        private static long gatherTwo(int kind, long a, long b) {
            return kind == LEAST ? Math.min(a, b) : kind == MOST ? Math.max(a, b) : a + b;
        }

        /** A sum out of bounds gives no row, though as a long it may look like a word. */
        private static boolean isInBounds(Rule rule, long told) {
            return rule.gatherKind != SUM || told >= -BOUND && told <= BOUND;
        }

        private boolean giveGroups(Rule rule) {
            for (int i = 0; i < loose.size; i++) {
                loose.read(i, floor);
                loose.read(i, given);
                given[rule.gather] = gathered[loose.ranks[i]];
                if (isInBounds(rule, given[rule.gather]) && !give(rule.head, given)) {
                    return false;
                }
            }
            return true;
        }

        /** The moment behind the round: rows that are as they were are kept, not made again. */
        Moment outcome(Moment old, boolean taken) {
            Rows[] rows = new Rows[program.predicates];
            int moved = 0;
            for (int p = 0; p < program.predicates; p++) {
                boolean same = (changed >> p & 1) == 0 && facts[p].sameRanks(ahead[p]);
                rows[p] = same ? ahead[p] : facts[p] == made[p] ? made[p].frozen() : facts[p];
                moved += same ? 0 : rows[p].differing(ahead[p]);
            }
            for (int q = 0; taken && q < old.program.predicates; q++) {
                moved += program.like(old.program, q) == NONE ? old.rows[q].size : 0;
            }
            Moment behind = new Moment(program, rows);
            behind.moved = moved;
            behind.taken = taken ? 1 : 0;
            behind.editions = old.editions + behind.taken;
            return behind;
        }

        /** The REASON of a row that is no INPUT's. */
        void explain(Moment now, int p, int i) {
            program = now.program;
            reasonRule = NONE;
            Arrays.fill(reasonRows, NONE);
            int rank = now.rows[p].ranks[i];
            now.rows[p].read(i, given);
            for (int r = 0; r < program.rules && reasonRule == NONE; r++) {
                Rule rule = program.list[r];
                if (rule.head == p) {
                    boolean gives = rule.gather == NONE ? findWay(rule, now.rows, rank)
                        : rank == 1 && gathersGiven(rule, now.rows);
                    reasonRule = gives ? r : NONE;
                }
            }
        }

        /** The least WAY that gives the row by rows of lower RANKS. */
        private boolean findWay(Rule rule, Rows[] rows, int rank) {
            int members = program.membersOf(program.rings[rule.head]);
            ways.open(rule, rows, false);
            for (int l = 0; l < rule.literals; l++) {
                ways.high[l] = isOwn(rule, l, members) ? rank - 1 : LEVELS;
            }
            for (int c = 0; c < rule.items; c++) {
                int lone = rule.loneVariable(c);
                if (lone != NONE && !ways.fix(lone, given[c])) {
                    return false;
                }
            }
            boolean found = false;
            for (int i = 0; i < MANY_WAYS && ways.next(); i++) {
                if (ways.headRow(row) && isGiven(rule) && (!found || isBelowBest(rule.variables))) {
                    System.arraycopy(ways.values, 0, best, 0, VARIABLES);
                    found = true;
                }
            }
            int atom = 0;
            for (int l = 0; found && l < rule.literals; l++) {
                if (rule.kinds[l] == ATOM) {
                    reasonRows[atom] = ways.rowOf(l, best);
                    atom++;
                }
            }
            return found;
        }

        /** Whether the HEAD's row, but for what is gathered, is the one that is asked for. */
        private boolean isGiven(Rule rule) {
            for (int c = 0; c < rule.items; c++) {
                if (c != rule.gather && row[c] != given[c]) {
                    return false;
                }
            }
            return true;
        }

        private boolean isBelowBest(int variables) {
            for (int v = 0; v < variables; v++) {
                if (ways.values[v] != best[v]) {
                    return ways.values[v] < best[v];
                }
            }
            return false;
        }

        private boolean gathersGiven(Rule rule, Rows[] rows) {
            boolean found = false;
            long all = 0;
            ways.open(rule, rows, false);
            for (int i = 0; i < MANY_WAYS && ways.next(); i++) {
                long told = rule.gatherKind == COUNT ? 1 : ways.values[rule.gatherVariable];
                boolean left = rule.gatherKind == SUM && told > BOUND;
                if (!left && ways.headRow(row) && isGiven(rule)) {
                    all = found ? gatherTwo(rule.gatherKind, all, told) : told;
                    found = true;
                }
            }
            return found && isInBounds(rule, all) && all == given[rule.gather];
        }
    }

    /** A cell's text as code, and what it reads (cells 64 and on by the second mask). */
    private static final class Formula {
        final int[] ops;
        final long[] args;
        long readsLow;
        long readsHigh;
        boolean readsName;

        Formula(int[] ops, long[] args) {
            this.ops = ops;
            this.args = args;
            for (int i = 0; i < ops.length; i++) {
                int op = ops[i] & 255;
                if (op == PUT_VARIABLE) {
                    addRead((int) args[i]);
                } else if (op == CELLS_SUM || op == CELLS_COUNT) {
                    addReads((int) args[i] % CELLS, (int) args[i] / CELLS);
                } else if (op >= ROWS_COUNT && op <= ROWS_MOST) {
                    readsName = true;
                }
            }
        }

        private void addReads(int first, int second) {
            for (int cell = first; cell <= second; cell++) {
                if (cell % COLUMNS >= first % COLUMNS && cell % COLUMNS <= second % COLUMNS) {
                    addRead(cell);
                }
            }
        }

        private void addRead(int cell) {
            if (cell < 64) {
                readsLow |= 1L << cell;
            } else {
                readsHigh |= 1L << cell - 64;
            }
        }

        boolean readsAny(long low, long high) {
            return (readsLow & low) != 0 || (readsHigh & high) != 0;
        }
    }

    /** Works out the cells of a moment. */
    private static final class Sheet {
        private Moment now;
        private long[] cells;
        private final long[] reachLow = new long[CELLS];
        private final long[] reachHigh = new long[CELLS];
        private final long[] stack = new long[STACK];

        void settle(Moment ahead, Moment behind, Line line, int changed) {
            now = behind;
            behind.texts = ahead.texts;
            behind.cells = ahead.cells;
            boolean used = false;
            for (int c = 0; c < CELLS; c++) {
                if (line.cellTold[c]) {
                    if (behind.told == 0) {
                        behind.texts = ahead.texts.clone();
                    }
                    behind.texts[c] = line.cellTexts[c];
                    behind.told++;
                }
                used |= behind.texts[c] != null;
            }
            if (behind.told > 0 || used && (changed != 0 || behind.taken == 1)) {
                behind.cells = new long[CELLS];
                cells = behind.cells;
                findRings();
                workCells();
                countWorked(ahead, line, changed);
            }
        }

        /** Which cells each cell reads, round about too. */
        private void findRings() {
            for (int c = 0; c < CELLS; c++) {
                Formula text = now.texts[c];
                reachLow[c] = text == null ? 0 : text.readsLow;
                reachHigh[c] = text == null ? 0 : text.readsHigh;
            }
            for (int via = 0; via < CELLS; via++) {
                boolean reads = reachLow[via] != 0 || reachHigh[via] != 0;
                for (int c = 0; reads && c < CELLS; c++) {
                    if (isIn(via, reachLow[c], reachHigh[c])) {
                        reachLow[c] |= reachLow[via];
                        reachHigh[c] |= reachHigh[via];
                    }
                }
            }
        }

        private static boolean isIn(int cell, long low, long high) {
            return ((cell < 64 ? low >> cell : high >> cell - 64) & 1) == 1;
        }

        /** Each cell behind those that it reads; a turn works one cell at least, while there are some. */
        private void workCells() {
            long doneLow = 0;
            long doneHigh = 0;
            boolean more = true;
            for (int turn = 0; turn <= CELLS && more; turn++) {
                more = false;
                for (int c = 0; c < CELLS; c++) {
                    Formula text = now.texts[c];
                    boolean ring = isIn(c, reachLow[c], reachHigh[c]);
                    boolean open = !isIn(c, doneLow, doneHigh);
                    if (open && (text == null || ring || !text.readsAny(~doneLow, ~doneHigh))) {
                        cells[c] = text == null ? EMPTY : ring ? ERROR + ERROR_RING : worth(text);
                        doneLow |= c < 64 ? 1L << c : 0;
                        doneHigh |= c < 64 ? 0 : 1L << c - 64;
                        more = true;
                    }
                }
            }
        }

        private void countWorked(Moment ahead, Line line, int changed) {
            long low = 0;
            long high = 0;
            for (int c = 0; c < CELLS; c++) {
                boolean other = cells[c] != ahead.cells[c];
                low |= other && c < 64 ? 1L << c : 0;
                high |= other && c >= 64 ? 1L << c - 64 : 0;
            }
            for (int c = 0; c < CELLS; c++) {
                Formula text = now.texts[c];
                if (text != null && (line.cellTold[c] || text.readsAny(low, high) || readsChanged(text, changed))) {
                    line.cellWorked[c]++;
                }
            }
        }

        private boolean readsChanged(Formula text, int changed) {
            if (!text.readsName || now.taken == 1) {
                return text.readsName;
            }
            for (int i = 0; i < text.ops.length; i++) {
                int op = text.ops[i] & 255;
                if (op >= ROWS_COUNT && op <= ROWS_MOST) {
                    int p = now.program.find(text.args[i]);
                    if (p != NONE && (changed >> p & 1) == 1) {
                        return true;
                    }
                }
            }
            return false;
        }

        private long worth(Formula text) {
            int height = 0;
            for (int i = 0; i < text.ops.length; i++) {
                int op = text.ops[i] & 255;
                int target = i;
                if (op == JUMP) {
                    target = (int) text.args[i] - 1;
                } else if (op == TEST && height > 0) {
                    long told = stack[height - 1];
                    boolean error = told < -BOUND;
                    height -= error ? 0 : 1;
                    // The step ahead of the third part leads to the end, for an ERROR as for the second part.
                    target = error ? (int) text.args[i] - 2 : told == 0 ? (int) text.args[i] - 1 : i;
                } else if (op <= ROWS_MOST && height < STACK) {
                    stack[height] = operand(op, text.ops[i] >> 8, text.args[i]);
                    height++;
                } else if (op > JUMP && height > 1) {
                    height--;
                    stack[height - 1] = reckon(op, stack[height - 1], stack[height]);
                }
                // Steps lead ahead alone, those of an if too.
                i = Math.max(i, target);
            }
            return stack[0];
        }

        private long operand(int op, int column, long arg) {
            if (op == PUT_VALUE) {
                return arg;
            }
            if (op == PUT_VARIABLE) {
                long told = cells[(int) arg];
                return told == EMPTY ? 0 : told;
            }
            if (op == CELLS_SUM || op == CELLS_COUNT) {
                return overCells(op == CELLS_SUM, (int) arg % CELLS, (int) arg / CELLS);
            }
            return overRows(op, column - 1, arg);
        }

        private long overCells(boolean sums, int first, int second) {
            long sum = 0;
            int count = 0;
            for (int c = first; c <= second; c++) {
                boolean inside = c % COLUMNS >= first % COLUMNS && c % COLUMNS <= second % COLUMNS;
                if (inside && cells[c] != EMPTY) {
                    if (cells[c] < -BOUND) {
                        return cells[c];
                    }
                    sum += cells[c] > BOUND ? 0 : cells[c];
                    count++;
                }
            }
            return sums ? bounded(sum) : count;
        }

        private static long bounded(long sum) {
            return sum > BOUND || sum < -BOUND ? ERROR + ERROR_BOUND : sum;
        }

        private long overRows(int op, int column, long name) {
            int p = now.program.find(name);
            if (p == NONE || column >= now.program.widths[p]) {
                return ERROR + ERROR_NAME;
            }
            Rows rows = now.rows[p];
            if (op == ROWS_COUNT) {
                return rows.size;
            }
            long all = 0;
            for (int i = 0; i < rows.size; i++) {
                long told = rows.at(i, column);
                if (op == ROWS_SUM) {
                    all += told > BOUND ? 0 : told;
                } else if (i == 0) {
                    all = told;
                } else {
                    all = op == ROWS_LEAST ? Math.min(all, told) : Math.max(all, told);
                }
            }
            return op == ROWS_SUM ? bounded(all) : all;
        }
    }

    /** What a line is behind a round. It is never changed then, so lines share it. */
    private static final class Moment {
        final Program program;
        final Rows[] rows;
        Formula[] texts;
        long[] cells;
        // Of its round: rows that came or went, CELLS that got texts, EDITIONS that were taken.
        int moved;
        int told;
        int taken;
        int editions;

        Moment(Program program, Rows[] rows) {
            this.program = program;
            this.rows = rows;
        }

        boolean has(int p, int i, int column) {
            return p >= 0 && p < program.predicates && i >= 0 && i < rows[p].size
                && column >= 0 && column < program.widths[p];
        }

        int rowsOfAll() {
            int all = 0;
            for (int p = 0; p < program.predicates; p++) {
                all += rows[p].size;
            }
            return all;
        }

        /** The rows that a predicate of this NAME and n had at an earlier moment. */
        Rows rowsAhead(Moment ahead, int p) {
            int same = ahead.program.like(program, p);
            return same == NONE ? new Rows(program.widths[p], 0) : ahead.rows[same];
        }

        int differing(Moment ahead, int p) {
            int same = ahead.program.like(program, p);
            return same == NONE ? rows[p].size : rows[p].differing(ahead.rows[same]);
        }
    }

    /** A line: its moments, where it comes from, its WORKED counts, and what is PENDING. */
    private static final class Line {
        final Moment[] moments = new Moment[ROUNDS];
        int rounds;
        int oldest;
        int forkLine = NONE;
        int forkRound;
        final int[] worked = new int[NAMES];
        final int[] cellWorked = new int[CELLS];
        Program edition;
        int changes;
        // A predicate of the next EDITION, or of the program; NONE for a CHANGE that does nothing.
        final int[] changePredicates = new int[CHANGES];
        final boolean[] changeAdds = new boolean[CHANGES];
        final long[] changeValues = new long[WIDTH * CHANGES];
        final boolean[] cellTold = new boolean[CELLS];
        final Formula[] cellTexts = new Formula[CELLS];

        Line(Moment nothing) {
            moments[0] = nothing;
        }

        Moment present() {
            return moments[rounds];
        }

        boolean isPast(int round) {
            return round >= oldest && round <= rounds;
        }

        void emptyPending() {
            edition = null;
            changes = 0;
            for (int c = 0; c < CELLS; c++) {
                cellTold[c] = false;
                cellTexts[c] = null;
            }
        }

        void addChange(int p, boolean adds, long[] values, int from, int width) {
            if (changes < CHANGES) {
                changePredicates[changes] = p;
                changeAdds[changes] = adds;
                System.arraycopy(values, from, changeValues, WIDTH * changes, width);
                changes++;
            }
        }

        /** CHANGES for the rows that are in the first ones and not in the others. */
        void addMissing(int p, boolean adds, Rows some, Rows others) {
            long[] row = new long[WIDTH];
            for (int i = 0; i < some.size; i++) {
                some.read(i, row);
                if (others.find(row) < 0) {
                    addChange(p, adds, row, 0, some.width);
                }
            }
        }

        void countWorked(int mask, boolean taken) {
            for (int p = 0; p < NAMES; p++) {
                worked[p] = (taken ? 0 : worked[p]) + (mask >> p & 1);
            }
        }

        void append(Moment behind) {
            rounds++;
            moments[rounds] = behind;
            int rows = 0;
            int cells = 0;
            int editions = 0;
            int least = rounds;
            for (int r = rounds; r > oldest; r--) {
                rows += moments[r].moved;
                cells += moments[r].told;
                editions += moments[r].taken;
                if (rows > PAST_ROWS || cells > PAST_CELLS || editions > PAST_EDITIONS) {
                    break;
                }
                least = r - 1;
            }
            oldest = least;
        }

        void goBack(int round) {
            if (moments[round].program.serial != present().program.serial) {
                Arrays.fill(worked, 0);
            }
            if (round < forkRound) {
                forkLine = NONE;
            }
            rounds = round;
            emptyPending();
        }

        void become(Line other, int round) {
            for (int r = other.oldest; r <= round; r++) {
                moments[r] = other.moments[r];
            }
            rounds = round;
            oldest = other.oldest;
            Arrays.fill(worked, 0);
            Arrays.fill(cellWorked, 0);
            emptyPending();
        }
    }
}

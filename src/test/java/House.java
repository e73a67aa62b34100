import java.nio.charset.StandardCharsets;
import java.util.NoSuchElementException;

/** A ChangeHouse that is spoken to by texts, and the count of its answers that were not as due. */
final class House {
    static final long THROWS = Long.MIN_VALUE;

    interface Call {
        long answer();
    }

    private static int wrong = 0;
    final ChangeHouse x = new ChangeHouse();

    /** Twenty bytes a call, as the tape takes them; end() cuts what is too much. */
    void feed(String text) {
        byte[] bytes = text.getBytes(StandardCharsets.ISO_8859_1);
        int before = x.count(9);
        for (int i = 0; i < bytes.length; i += 20) {
            int[] four = new int[5];
            for (int j = 0; j < 20; j++) {
                int b = i + j < bytes.length ? bytes[i + j] & 255 : 0;
                four[j / 4] |= b << (24 - 8 * (j % 4));
            }
            if (!x.feed(four[0], four[1], four[2], four[3], four[4])) {
                throw new IllegalStateException("the tape is full");
            }
        }
        if (!x.end(before + bytes.length)) {
            throw new IllegalStateException("end() was refused");
        }
    }

    int program(String text) {
        feed(text);
        return x.program();
    }

    int change(String text) {
        feed(text);
        return x.change();
    }

    int cell(String text) {
        feed(text);
        return x.cell();
    }

    int query(String text) {
        feed(text);
        return x.query();
    }

    /** A round with these CHANGES. */
    int round(String changes) {
        int told = change(changes);
        if (told < 0) {
            throw new IllegalStateException("change() answered " + told + " for " + changes);
        }
        return x.round();
    }

    /** A program taken, with its first CHANGES, in one round. */
    int start(String program, String changes) {
        int told = program(program);
        if (told < 0) {
            throw new IllegalStateException("program() answered " + told + ", place " + x.place() + ", for " + program);
        }
        return round(changes);
    }

    /** All rows of a predicate, as a text would tell them. */
    String rows(int p) {
        StringBuilder all = new StringBuilder();
        for (int i = 0; i < x.predicate(p, 6); i++) {
            all.append(i == 0 ? "" : " ");
            for (int c = 0; c < x.predicate(p, 0); c++) {
                all.append(c == 0 ? "" : ",").append(told(x.value(p, i, c)));
            }
        }
        return all.toString();
    }

    String pastRows(int round, int p, int width) {
        StringBuilder all = new StringBuilder();
        for (int i = 0; i < x.past(round, p); i++) {
            all.append(i == 0 ? "" : " ");
            for (int c = 0; c < width; c++) {
                all.append(c == 0 ? "" : ",").append(told(x.pastValue(round, p, i, c)));
            }
        }
        return all.toString();
    }

    /** The ANSWERS of a query, or what query() answered if it has none. */
    String answers(String query, int variables) {
        int n = query(query);
        StringBuilder all = new StringBuilder();
        for (int i = 0; i < n; i++) {
            all.append(i == 0 ? "" : " ");
            for (int v = 0; v < variables; v++) {
                all.append(v == 0 ? "" : ",").append(told(x.answer(i, v)));
            }
        }
        return n <= 0 ? Integer.toString(n) : all.toString();
    }

    /** The EDITS: + or -, predicate, row. */
    String edits() {
        StringBuilder all = new StringBuilder();
        for (int i = 0; i < x.edits(); i++) {
            int p = (int) x.edit(i, 0);
            all.append(i == 0 ? "" : " ").append(x.edit(i, 1) == 1 ? "+" : "-").append(p).append(":");
            for (int c = 0; c < x.predicate(p, 0); c++) {
                all.append(c == 0 ? "" : ",").append(told(x.edit(i, 2 + c)));
            }
        }
        return all.toString();
    }

    /** A cell: EMPTY, a value, or ERROR and its number. */
    String cellAt(String cell) {
        int column = cell.charAt(0) - 'A';
        int row = Integer.parseInt(cell.substring(1)) - 1;
        long kind = x.sheet(column, row, 0);
        long value = x.sheet(column, row, 1);
        return kind == 0 ? "EMPTY" + (value == 0 ? "" : value) : kind == 2 ? "ERROR " + value : told(value);
    }

    long worked(String cell) {
        return x.sheet(cell.charAt(0) - 'A', Integer.parseInt(cell.substring(1)) - 1, 2);
    }

    static String told(long value) {
        if (value <= 1_000_000_000_000L) {
            return Long.toString(value);
        }
        StringBuilder word = new StringBuilder();
        for (long code = value - 2_000_000_000_000L; code > 0; code /= 27) {
            if (code % 27 > 0) {
                word.append((char) ('a' + code % 27 - 1));
            }
        }
        return word.reverse().toString();
    }

    static long value(String word) {
        long code = 0;
        for (int i = 0; i < 8; i++) {
            code = code * 27 + (i < word.length() ? word.charAt(i) - 'a' + 1 : 0);
        }
        return 2_000_000_000_000L + code;
    }

    /** What a call answers, or THROWS for the one exception that the document names. */
    static long of(Call call) {
        try {
            return call.answer();
        } catch (NoSuchElementException e) {
            return THROWS;
        }
    }

    static void due(String what, long got, long want) {
        if (got != want) {
            wrong++;
            System.out.println(what + ": answered " + (got == THROWS ? "throws" : got) + ", due is " + (want == THROWS ? "throws" : want));
        }
    }

    static void due(String what, String got, String want) {
        if (!got.equals(want)) {
            wrong++;
            System.out.println(what + ": answered " + got + ", due is " + want);
        }
    }

    static void throwsNone(String what, Call call) {
        due(what, of(call), THROWS);
    }

    static void end() {
        System.out.println(wrong == 0 ? "all answers are as due" : wrong + " answers are not as due");
        if (wrong != 0) {
            System.exit(1);
        }
    }
}

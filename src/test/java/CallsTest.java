import java.nio.charset.StandardCharsets;
import java.util.NoSuchElementException;
import java.util.Random;

/** Any call with any numbers in any state: nothing but the document's exception ever comes out, and each call ends. */
public final class CallsTest {
    private static final int[] ODD = {0, 1, 2, 3, 4, 5, 6, 7, 8, 11, 12, 15, 16, 71, 72, 100, 500, 512, 3000, 3001, -1, -2, Integer.MAX_VALUE, Integer.MIN_VALUE,
        Integer.MAX_VALUE - 1, Integer.MIN_VALUE + 1, 1 << 30, 1 << 16};
    private static final String[] PIECES = {"input e/2 key 1.", "input f/1.", "output p.", "p(X) :- e(X,_).", "p(Y) :- p(X), Y = X + 1, Y < 30.", "q(count()) :- p(X).",
        "q(sum(X)) :- p(X), not f(X).", "+e(1,2).", "+f(1).", "-e(1,2).", "+f(a).", "A1=", "B2=A1+sum(A1:C3)", "A1=count(p)", "C1=if(A1,sum(p,1),B2)", "p(X).",
        "e(X,Y), X < Y.", "(", ")", ",", ".", "X", "_", "not ", "((((", "1", "-", "+", "*", "/", "%", ":-", "=", "!=", " ", "#", "\n", "abcdefghijklm", "Abcdefghi",
        "999999999999999", "sum(", "count()", "least(X)", "if(", "\u0000", "\u00ff"};

    public static void main(String[] args) {
        int runs = args.length > 0 ? Integer.parseInt(args[0]) : 400;
        int wrong = 0;
        for (int seed = 1; seed <= runs && wrong < 3; seed++) {
            try {
                run(new Random(seed));
            } catch (RuntimeException e) {
                wrong++;
                System.out.println("seed " + seed + ": " + e);
                e.printStackTrace(System.out);
            }
        }
        House.due("runs that ended by an exception", wrong, 0);
        House.end();
    }

    private static int odd(Random random) {
        return random.nextInt(4) == 0 ? random.nextInt() : ODD[random.nextInt(random.nextBoolean() ? 8 : ODD.length)];
    }

    private static void feed(ChangeHouse x, Random random) {
        StringBuilder text = new StringBuilder();
        int pieces = 1 + random.nextInt(random.nextInt(10) == 0 ? 200 : 8);
        for (int i = 0; i < pieces; i++) {
            text.append(PIECES[random.nextInt(PIECES.length)]);
        }
        byte[] bytes = text.toString().getBytes(StandardCharsets.ISO_8859_1);
        int before = x.count(9);
        for (int i = 0; i + 20 <= bytes.length + 19; i += 20) {
            int[] four = new int[5];
            for (int j = 0; j < 20; j++) {
                four[j / 4] |= (i + j < bytes.length ? bytes[i + j] & 255 : 32) << (24 - 8 * (j % 4));
            }
            x.feed(four[0], four[1], four[2], four[3], four[4]);
        }
        x.end(before + bytes.length);
    }

    private static void run(Random random) {
        ChangeHouse x = new ChangeHouse();
        // More calls than the document allows: what they answer is free, but nothing may break.
        for (int i = 0; i < 900; i++) {
            try {
                if (random.nextInt(3) == 0) {
                    feed(x, random);
                }
                one(x, random, odd(random), odd(random), odd(random), odd(random));
            } catch (NoSuchElementException e) {
                // as promised
            }
        }
    }

    private static void one(ChangeHouse x, Random random, int a, int b, int c, int d) {
        switch (random.nextInt(28)) {
            case 0 -> x.feed(a, b, c, d, a);
            case 1 -> x.end(a);
            case 2, 25 -> x.program();
            case 3 -> x.place();
            case 4, 26 -> x.change();
            case 5, 27 -> x.cell();
            case 6 -> x.forget();
            case 7, 8 -> x.round();
            case 9 -> x.count(a);
            case 10 -> x.predicate(a, b);
            case 11 -> x.value(a, b, c);
            case 12 -> x.edits();
            case 13 -> x.edit(a, b);
            case 14 -> x.query();
            case 15 -> x.answer(a, b);
            case 16 -> x.rank(a, b);
            case 17 -> x.reason(a, b, c);
            case 18 -> x.sheet(a, b, c);
            case 19 -> x.past(a, b);
            case 20 -> x.pastValue(a, b, c, d);
            case 21 -> x.back(random.nextInt(4) == 0 ? a : x.count(0) - random.nextInt(2));
            case 22 -> x.branch(a, x.count(0) - random.nextInt(3));
            case 23 -> x.line(a);
            default -> {
                x.merge(a);
                x.met(b);
            }
        }
    }
}

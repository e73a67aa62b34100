import java.lang.management.ManagementFactory;

/** The room that all calls of one run have: some 600,000 objects and arrays, 7.3 million fields and elements. */
public final class RoomTest {
    // Eight bytes an element at most, and what an object costs by itself.
    private static final long ROOM = 7_300_000L * 8;

    public static void main(String[] args) {
        // A first run for what the machine makes for itself.
        heavyRounds();
        manyTexts();
        check("rounds that make 1400 rows anew", RoomTest::heavyRounds);
        check("many texts", RoomTest::manyTexts);
        check("many cells", RoomTest::manyCells);
        check("why, of a ring", RoomTest::manyReasons);
        House.end();
    }

    private static void check(String what, Runnable run) {
        com.sun.management.ThreadMXBean threads = (com.sun.management.ThreadMXBean) ManagementFactory.getThreadMXBean();
        long id = Thread.currentThread().getId();
        long before = threads.getThreadAllocatedBytes(id);
        run.run();
        long bytes = threads.getThreadAllocatedBytes(id) - before;
        System.out.println(what + ": " + bytes / 1024 + " KiB, of " + ROOM / 1024);
        House.due(what + ": too much room", bytes > ROOM / 2 ? 1 : 0, 0);
    }

    private static void heavyRounds() {
        House h = new House();
        StringBuilder text = new StringBuilder("input e/1. n(0). n(Y) :- n(X), Y = X + 1, Y < 100.");
        for (int i = 0; i < 14; i++) {
            text.append("p").append(i).append("(X,Y,X,X) :- n(X), e(Y).");
        }
        h.start(text.toString(), "+e(0).");
        for (int i = 0; i < 160; i++) {
            h.round(i % 2 == 0 ? "+e(1).-e(0)." : "+e(0).-e(1).");
        }
        House.due("rounds", h.x.count(0), 161);
    }

    private static void manyTexts() {
        House h = new House();
        for (int i = 0; i < 170; i++) {
            h.program("a(1).a(2).b(3).a(X):-");
            h.program("a(1).a(2).a(4).a(5)." + " ".repeat(5));
            h.x.round();
        }
        for (int i = 0; i < 100; i++) {
            h.query("a(X), a(Y), X<Y.");
            h.query("a(X), a(Y), X<Z.");
        }
    }

    private static void manyCells() {
        House h = new House();
        for (int i = 0; i < 250; i++) {
            h.cell("A" + (1 + i % 12) + "=sum(B1:F12)+1");
            h.x.round();
        }
    }

    private static void manyReasons() {
        House h = new House();
        h.start("input e/2. up(X,Y) :- e(X,Y). up(X,Z) :- up(X,Y), up(Y,Z).",
            "+e(1,2).+e(2,3).+e(3,4).+e(4,5).+e(5,6).+e(6,7).+e(7,8).+e(8,9).+e(9,10).+e(10,11).+e(11,12).+e(12,13).+e(13,14).");
        for (int i = 0; i < 450; i++) {
            h.x.reason(1, i % 91, i % 4);
        }
    }
}

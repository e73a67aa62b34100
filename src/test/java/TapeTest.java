/** Promises 1 (a new object), 2 (feed), 3 (end). */
public final class TapeTest {
    public static void main(String[] args) {
        newObject();
        feedAndEnd();
        textsEmptyTheTape();
        House.end();
    }

    private static void newObject() {
        ChangeHouse x = new ChangeHouse();
        for (int what = 0; what <= 9; what++) {
            House.due("new: count(" + what + ")", x.count(what), 0);
        }
        House.due("new: count(10)", x.count(10), ChangeHouse.NONE);
        House.due("new: count(-1)", x.count(-1), ChangeHouse.NONE);
        House.due("new: place()", x.place(), ChangeHouse.NONE);
        House.due("new: edits()", x.edits(), 0);
        House.due("new: past(0, 0)", x.past(0, 0), ChangeHouse.NONE);
        House.due("new: sheet(0, 0, 0)", x.sheet(0, 0, 0), 0);
        House.throwsNone("new: predicate(0, 0)", () -> x.predicate(0, 0));
        House.throwsNone("new: answer(0, 0)", () -> x.answer(0, 0));
        House.throwsNone("new: met(0)", () -> x.met(0));
        for (int k = 3; k >= 0; k--) {
            x.line(k);
            House.due("new: rounds of line " + k, x.count(0), 0);
            House.due("new: the line " + k, x.count(5), k);
        }
    }

    private static void feedAndEnd() {
        ChangeHouse x = new ChangeHouse();
        for (int i = 1; i <= 150; i++) {
            House.due("feed " + i, x.feed(i, i, i, i, i) ? 1 : 0, 1);
            House.due("bytes behind feed " + i, x.count(9), 20 * i);
        }
        House.due("feed 151", x.feed(0, 0, 0, 0, 0) ? 1 : 0, 0);
        House.due("bytes behind feed 151", x.count(9), 3000);
        House.due("end(3001)", x.end(3001) ? 1 : 0, 0);
        House.due("end(-1)", x.end(-1) ? 1 : 0, 0);
        House.due("end(MIN)", x.end(Integer.MIN_VALUE) ? 1 : 0, 0);
        House.due("bytes stay", x.count(9), 3000);
        House.due("end(3000)", x.end(3000) ? 1 : 0, 1);
        House.due("end(2981)", x.end(2981) ? 1 : 0, 1);
        House.due("feed beyond 3000", x.feed(0, 0, 0, 0, 0) ? 1 : 0, 0);
        House.due("end(2980)", x.end(2980) ? 1 : 0, 1);
        House.due("feed up to 3000", x.feed(0, 0, 0, 0, 0) ? 1 : 0, 1);
        House.due("end(0)", x.end(0) ? 1 : 0, 1);
        House.due("end(1) of an empty tape", x.end(1) ? 1 : 0, 0);
        // The highest byte first: 'p', '(', '1', ')', '.'
        House.due("feed", x.feed(0x70283129, 0x2e202020, 0x20202020, 0x20202020, 0x20202020) ? 1 : 0, 1);
        House.due("p(1).", x.program(), 1);
        // Bytes above 127 are bytes, not letters of other sizes.
        x.feed(0xff202020, 0x20202020, 0x20202020, 0x20202020, 0x20202020);
        House.due("byte 255", x.program(), -1);
    }

    private static void textsEmptyTheTape() {
        House h = new House();
        h.program("p(1).");
        House.due("tape behind program()", h.x.count(9), 0);
        h.program("p(1");
        House.due("tape behind a wrong program()", h.x.count(9), 0);
        h.change("+p(1).");
        House.due("tape behind change()", h.x.count(9), 0);
        h.cell("A1=");
        House.due("tape behind cell()", h.x.count(9), 0);
        h.cell("A");
        House.due("tape behind a wrong cell()", h.x.count(9), 0);
        h.query("p(");
        House.due("tape behind query()", h.x.count(9), 0);
        h.feed("p(1");
        h.feed("23).");
        House.due("a text in two parts", h.x.program(), 1);
        h.feed("p(1).p(2)x");
        h.x.end(9);
        House.due("a text that end() cuts", h.x.program(), -10);
    }
}

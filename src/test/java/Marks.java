/** Texts with a ^ at the place at which they are WRONG or have their FAULT; the ^ is no part of them. */
abstract class Marks {
    static final int NONE = ChangeHouse.NONE;
    static final String LONG_NAME = "abcdefghijkl";
    static final String LONG_VARIABLE = "Abcdefgh";
    /** The words that are no NAMES and no VALUES. */
    static final String[] KEPT = {"input", "output", "key", "not", "count", "sum", "least", "most"};

    static String plain(String marked) {
        return marked.replace("^", "");
    }

    static int markOf(String marked) {
        int at = marked.indexOf('^');
        if (at < 0) {
            throw new IllegalStateException("no mark in " + marked);
        }
        return at;
    }

    static void rightProgram(String text, int rules) {
        House h = new House();
        House.due("program " + text, h.program(text), rules);
        House.due("place of " + text, h.x.place(), NONE);
    }

    static void wrongProgram(String marked) {
        House h = new House();
        House.due("program " + marked, h.program(plain(marked)), -1 - markOf(marked));
        House.due("place of " + marked, h.x.place(), NONE);
        House.due("round behind " + marked, h.x.round(), 0);
        House.due("editions behind " + marked, h.x.count(7), 0);
    }

    static void faultyProgram(int kind, String marked) {
        House h = new House();
        House.due("program " + marked, h.program(plain(marked)), -5000 - kind);
        House.due("place of " + marked, h.x.place(), markOf(marked));
        h.x.round();
        House.due("editions behind " + marked, h.x.count(7), 0);
    }

    static void rightChange(House h, String text, int changes) {
        int before = h.x.count(4);
        House.due("change " + text, h.change(text), changes);
        House.due("place of " + text, h.x.place(), NONE);
        House.due("pending behind " + text, h.x.count(4), before + changes);
    }

    static void wrongChange(House h, String marked) {
        int before = h.x.count(4);
        House.due("change " + marked, h.change(plain(marked)), -1 - markOf(marked));
        House.due("place of " + marked, h.x.place(), NONE);
        House.due("pending behind " + marked, h.x.count(4), before);
    }

    static void faultyChange(House h, int kind, String marked) {
        int before = h.x.count(4);
        House.due("change " + marked, h.change(plain(marked)), -5000 - kind);
        House.due("place of " + marked, h.x.place(), markOf(marked));
        House.due("pending behind " + marked, h.x.count(4), before);
    }

    static void rightQuery(House h, String text, int answers) {
        House.due("query " + text, h.query(text), answers);
        House.due("place of " + text, h.x.place(), NONE);
    }

    static void wrongQuery(House h, String marked) {
        House.due("query " + marked, h.query(plain(marked)), -1 - markOf(marked));
        House.due("place of " + marked, h.x.place(), NONE);
    }

    static void faultyQuery(House h, int kind, String marked) {
        House.due("query " + marked, h.query(plain(marked)), -5000 - kind);
        House.due("place of " + marked, h.x.place(), markOf(marked));
    }

    /** A text for the cell A1. */
    static void rightCell(String text) {
        House.due("cell " + text, new House().cell(text), 0);
    }

    static void wrongCell(String marked) {
        House h = new House();
        House.due("cell " + marked, h.cell(plain(marked)), -1 - markOf(marked));
        h.x.round();
        House.due("A1 behind " + marked, h.cellAt("A1"), "EMPTY");
    }

    /** So many pieces, # in them being their number from 0 on. */
    static String repeat(String piece, int from, int to) {
        StringBuilder text = new StringBuilder();
        for (int i = from; i < to; i++) {
            text.append(piece.replace("#", Integer.toString(i)));
        }
        return text.toString();
    }
}

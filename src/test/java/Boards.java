/** What the tests that call the class share: names of men and squares, and looks that are taken often. */
abstract class Boards {
    static final int NOBODY = 0;
    static final int PAWN = 1;
    static final int KNIGHT = 2;
    static final int BISHOP = 3;
    static final int ROOK = 4;
    static final int QUEEN = 5;
    static final int WHITE = 0;
    static final int BLACK = 1;
    static final int DRAWN = -1;
    /** Numbers that are no kind, no side above 1, no what; some are moves, squares or lengths of a run. */
    static final int[] WILD = {Integer.MIN_VALUE, -4096, -65, -64, -2, -1, 6, 64, 65, 100, 4096, 262144,
        Integer.MAX_VALUE};

    /** A square by its usual name: at("a1") is 0. */
    static int at(String name) {
        return name.charAt(0) - 'a' + 8 * (name.charAt(1) - '1');
    }

    static int move(String from, String to) {
        return at(from) + 64 * at(to);
    }

    static boolean isOn(int square, int files, int ranks) {
        return square >= 0 && square < 64 && square % 8 < files && square / 8 < ranks;
    }

    /** How many king's moves it is from square to square. */
    static int apart(int a, int b) {
        return Math.max(Math.abs(a % 8 - b % 8), Math.abs(a / 8 - b / 8));
    }

    static String call(int kind, int white, int man, int black, int side) {
        return "(" + kind + ", " + white + ", " + man + ", " + black + ", " + side + ")";
    }

    /** A new usual board with a position; "-" is the place of no man. */
    static EndTables board(int kind, String white, String man, String black, int side) {
        EndTables x = new EndTables(8, 8);
        put(x, kind, white, man, black, side);
        return x;
    }

    static void put(EndTables x, int kind, String white, String man, String black, int side) {
        set(true, x, kind, at(white), kind == NOBODY ? 0 : at(man), at(black), side);
    }

    static void set(boolean want, EndTables x, int kind, int white, int man, int black, int side) {
        Check.due("set" + call(kind, white, man, black, side), want ? 1 : 0,
            () -> x.set(kind, white, man, black, side) ? 1 : 0);
    }

    static void distance(int want, EndTables x, int kind, String white, String man, String black, int side) {
        Check.due("distance " + kind + white + man + black + side, want,
            () -> x.distance(kind, at(white), at(man), at(black), side));
    }

    static void noPosition(EndTables x, int kind, int white, int man, int black, int side) {
        Check.thrown("distance" + call(kind, white, man, black, side), IllegalArgumentException.class,
            () -> x.distance(kind, white, man, black, side));
        set(false, x, kind, white, man, black, side);
    }

    static void noPosition(EndTables x, int kind, String white, String man, String black, int side) {
        noPosition(x, kind, at(white), at(man), at(black), side);
    }

    static void stands(EndTables x, int kind, int white, int man, int black, int side) {
        int[] want = {kind, white, man, black, side};
        for (int what = 0; what < want.length; what++) {
            int w = what;
            Check.due("about " + w, want[w], () -> x.about(w));
        }
    }

    static void nothingSet(EndTables x) {
        Class<IllegalStateException> state = IllegalStateException.class;
        for (int k : new int[] {-1, 0, 5, 6, 101}) {
            Check.thrown("about without a position", state, () -> x.about(k));
            Check.thrown("move without a position", state, () -> x.move(k));
            Check.thrown("play without a position", state, () -> x.play(k));
            Check.thrown("run without a position", state, () -> x.run(k));
        }
        Check.thrown("left without a position", state, x::left);
        Check.thrown("moves without a position", state, x::moves);
        Check.thrown("best without a position", state, x::best);
    }

    static void order(EndTables x, int... want) {
        Check.due("moves", want.length, x::moves);
        for (int k = 0; k < want.length; k++) {
            int at = k;
            Check.due("move " + k, want[k], () -> x.move(at));
        }
        for (int k : new int[] {want.length, -1, 64, Integer.MIN_VALUE, Integer.MAX_VALUE}) {
            Check.thrown("move " + k, IndexOutOfBoundsException.class, () -> x.move(k));
        }
    }

    /** From "from" the men go to these squares, in this order, and from there to no other. */
    static void goes(EndTables x, String from, String... to) {
        StringBuilder got = new StringBuilder();
        for (int k = 0; k < x.moves(); k++) {
            int told = x.move(k);
            if (told % 64 == at(from)) {
                int square = told / 64 % 64;
                got.append(got.length() > 0 ? " " : "").append((char) ('a' + square % 8)).append(square / 8 + 1);
            }
        }
        String want = String.join(" ", to);
        Check.yes("from " + from + " it goes to " + got + ", due is " + want, want.contentEquals(got));
    }

    static int positions(EndTables ofSize, int kind, int side) {
        Reference ref = new Reference(ofSize.size(false), ofSize.size(true));
        int many = 0;
        for (int i = 0; i < 64 * 64 * 64; i++) {
            many += ref.isPosition(kind, i / 4096, i / 64 % 64, i % 64, side) ? 1 : 0;
        }
        return many;
    }
}

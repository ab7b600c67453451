/**
 * The document's sentences on mate, distances and best moves, and the promises that count and find
 * them: each one that names an edge has a test of its own, under its words.
 */
public final class DistanceTest extends Boards {
    private static final int[][] SIZES = {{8, 8}, {3, 3}, {3, 8}, {8, 3}, {5, 5}, {4, 6}, {6, 4}};

    private DistanceTest() {
    }

    public static void main(String[] args) {
        mated();
        distanceOfMate();
        leastForWhite();
        greatestForBlack();
        drawn();
        bestOfWhite();
        bestOfBlack();
        laws();
        lawsOfBarredPawns();
        promise3();
        promise3Throws();
        promise4();
        promise4NoSuchDistance();
        promise4Throws();
        promise5();
        promise5Order();
        promise5Throws();
        promise6();
        promise6Throws();
        promise9();
        promise12();
        promise12NoMove();
        Check.end("DistanceTest");
    }

    private static void left(int want, int kind, String white, String man, String black, int side) {
        Check.due("left of " + kind + white + man + black + side, want,
            () -> board(kind, white, man, black, side).left());
        if (kind != NOBODY) {
            distance(want, new EndTables(8, 8), kind, white, man, black, side);
        }
    }

    private static void best(String from, String to, int becomes, EndTables x) {
        Check.due("best", move(from, to) + 4096 * becomes, x::best);
    }

    private static void mated() {
        Check.sentence("Black is MATED when it is to move, is in check, and has no move.");
        left(0, QUEEN, "f6", "g7", "h8", BLACK);
        left(0, ROOK, "b6", "h8", "b8", BLACK);
        left(0, QUEEN, "c2", "a8", "a1", BLACK);
        // Not in check.
        left(DRAWN, QUEEN, "a1", "f7", "h8", BLACK);
        left(DRAWN, ROOK, "c3", "b2", "a1", BLACK);
        left(DRAWN, PAWN, "a6", "a7", "a8", BLACK);
        // It has a move: it takes, or goes aside.
        left(DRAWN, QUEEN, "a1", "g7", "h8", BLACK);
        left(DRAWN, ROOK, "f6", "g8", "h8", BLACK);
        EndTables x = board(ROOK, "c3", "h1", "b1", BLACK);
        goes(x, "b1", "a2");
        Check.yes("not yet", x.left() > 0);
    }

    private static void distanceOfMate() {
        Check.sentence("THE DISTANCE of a position: 0 if black is mated");
        Check.due("by a rook, as chess players have counted", 216, () -> new EndTables(8, 8).count(ROOK, BLACK, 0));
        Check.due("by a queen", 364, () -> new EndTables(8, 8).count(QUEEN, BLACK, 0));
        for (int kind = ROOK; kind <= QUEEN; kind++) {
            EndTables x = new EndTables(8, 8);
            for (int i = 0; i < 80; i++) {
                int told = x.find(kind, BLACK, 0, i);
                x.set(kind, told % 64, told / 64 % 64, told / 4096, BLACK);
                Check.yes("mated " + told, x.about(5) == 1 && x.moves() == 0);
            }
        }
        EndTables y = new EndTables(8, 8);
        for (int kind = PAWN; kind <= QUEEN; kind++) {
            int k = kind;
            Check.due("white is not mated", 0, () -> y.count(k, WHITE, 0));
        }
    }

    private static void leastForWhite() {
        Check.sentence("with white to move 1 more than the least distance behind its moves");
        left(1, QUEEN, "f6", "g1", "h8", WHITE);
        left(1, ROOK, "g6", "a1", "g8", WHITE);
        left(1, PAWN, "g6", "a7", "g8", WHITE);
        // Its first move keeps the queen, too, but mates later.
        EndTables x = board(QUEEN, "f6", "g1", "h8", WHITE);
        Check.yes("a longer way", x.play(x.move(0)) > 0);
    }

    private static void greatestForBlack() {
        Check.sentence("with black to move, if it has a move, and the positions behind all of its moves have "
            + "distances, 1 more than the greatest of these");
        // h6 and h8 are its moves, and the queen mates behind both.
        left(2, QUEEN, "f6", "g3", "h7", BLACK);
        EndTables x = new EndTables(8, 8);
        for (int i = 0; i < 60; i++) {
            int told = x.find(ROOK, BLACK, 2, i);
            x.set(ROOK, told % 64, told / 64 % 64, told / 4096, BLACK);
            Check.yes("has a move", x.moves() > 0);
            Check.due("mate is next", 1, () -> x.play(x.best()));
        }
        // One of its moves takes the man, all others lose.
        left(DRAWN, ROOK, "d4", "g7", "h8", BLACK);
    }

    private static void drawn() {
        Check.sentence("All other positions have none: they are DRAWN.");
        left(DRAWN, NOBODY, "c2", "-", "a1", BLACK);
        left(DRAWN, NOBODY, "c2", "-", "a1", WHITE);
        left(DRAWN, KNIGHT, "b3", "d2", "a1", WHITE);
        left(DRAWN, BISHOP, "b3", "d2", "a1", WHITE);
        left(DRAWN, PAWN, "b6", "a6", "a8", WHITE);
        left(DRAWN, PAWN, "e5", "e4", "e7", WHITE);
        // White has no move.
        EndTables x = board(PAWN, "a8", "a7", "c7", WHITE);
        Check.due("no move", 0, x::moves);
        Check.due("drawn", DRAWN, x::left);
        left(DRAWN, PAWN, "a8", "a7", "d7", BLACK);
    }

    private static void bestOfWhite() {
        Check.sentence("THE BEST MOVE of white is the first one in order behind which the distance is least "
            + "(the first one, if no move leads to a distance)");
        best("g1", "g7", 0, board(QUEEN, "f6", "g1", "h8", WHITE));
        // It mates on d1 and on h1.
        Check.due("on h1, too", 0, () -> board(QUEEN, "b3", "h5", "b1", WHITE).play(move("h5", "h1")));
        best("h5", "d1", 0, board(QUEEN, "b3", "h5", "b1", WHITE));
        best("a7", "a8", ROOK, board(PAWN, "g6", "a7", "g8", WHITE));
        best("a1", "b1", 0, board(BISHOP, "a1", "f7", "h8", WHITE));
        best("b1", "d2", 0, board(KNIGHT, "h8", "b1", "f6", WHITE));
        best("d4", "c3", 0, board(NOBODY, "d4", "-", "h8", WHITE));
        best("a6", "a7", 0, board(PAWN, "b6", "a6", "a8", WHITE));
    }

    private static void bestOfBlack() {
        Check.sentence("that of black the first one that leads to a drawn position; if none does, the first one "
            + "behind which it is greatest");
        // It takes, though that is not its first move.
        best("d4", "e5", 0, board(QUEEN, "a1", "e5", "d4", BLACK));
        // Behind c6 white wins, behind c7 and c8 it has no move.
        best("d7", "c7", 0, board(PAWN, "a8", "a7", "d7", BLACK));
        best("h8", "g7", 0, board(NOBODY, "d4", "-", "h8", BLACK));
        best("b1", "a2", 0, board(ROOK, "c3", "h1", "b1", BLACK));
    }

    /** Each distance and each best move of some positions, from what lies behind all moves. */
    private static void laws() {
        Check.sentence("the least distance behind its moves; the greatest of these; THE BEST MOVE");
        for (int[] size : SIZES) {
            Fresh lists = new Fresh(size[0], size[1]);
            Fresh plays = new Fresh(size[0], size[1]);
            for (int i = 0; i < 10; i++) {
                int kind = i / 2 + 1;
                int side = i % 2;
                int longest = lists.use(1).longest(kind);
                for (int n = DRAWN; n <= longest; n++) {
                    EndTables x = lists.use(4);
                    int many = x.count(kind, side, n);
                    for (int k = 0; k < 3 && k < many; k++) {
                        law(plays.use(120), kind, x.find(kind, side, n, (many - 1) * k / 2), side, n);
                    }
                }
            }
        }
    }

    /** A pawn on rank 1 goes neither over a king nor to its square: no distance comes that way. */
    private static void lawsOfBarredPawns() {
        Check.sentence("two ranks up over an empty square to an empty one: 1 more than the least distance behind");
        for (int[] size : new int[][] {{8, 8}, {4, 6}, {6, 5}, {3, 7}}) {
            Fresh plays = new Fresh(size[0], size[1]);
            int every = size[0] == 8 ? 7 : 2;
            for (int i = 0; i < size[0] * 64; i += every) {
                int man = 8 + i / 64;
                int other = i % 64;
                pawnLaw(plays, man + 8, man, other);
                pawnLaw(plays, man + 16, man, other);
                pawnLaw(plays, other, man, man + 8);
                pawnLaw(plays, other, man, man + 16);
                pawnLaw(plays, other, man, man + 24);
            }
        }
    }

    private static void pawnLaw(Fresh plays, int white, int man, int black) {
        EndTables x = plays.use(122);
        if (x.set(PAWN, white, man, black, WHITE)) {
            law(x, PAWN, white + 64 * man + 4096 * black, WHITE, x.distance(PAWN, white, man, black, WHITE));
        }
    }

    private static void law(EndTables x, int kind, int told, int side, int n) {
        int white = told % 64;
        int man = told / 64 % 64;
        int black = told / 4096;
        set(true, x, kind, white, man, black, side);
        Check.due("left", n, x::left);
        boolean mated = x.moves() == 0 && side == BLACK && x.about(5) == 1;
        int best = -1;
        int behind = DRAWN;
        for (int k = x.moves() - 1; k >= 0; k--) {
            int move = x.move(k);
            int d = x.play(move);
            boolean asGood = side == BLACK ? d == DRAWN || behind != DRAWN && d >= behind
                : behind == DRAWN || d != DRAWN && d <= behind;
            if (best < 0 || asGood) {
                best = move;
                behind = d;
            }
            set(true, x, kind, white, man, black, side);
        }
        int want = mated ? 0 : behind == DRAWN ? DRAWN : behind + 1;
        Check.due("distance" + call(kind, white, man, black, side), want,
            () -> x.distance(kind, white, man, black, side));
        if (best < 0) {
            Check.thrown("best" + call(kind, white, man, black, side), IllegalStateException.class, x::best);
        } else {
            Check.due("best" + call(kind, white, man, black, side), best, x::best);
        }
    }

    private static void promise3() {
        Check.sentence("The distance of a position; DRAWN.");
        Check.due("DRAWN", -1, () -> EndTables.DRAWN);
        EndTables x = new EndTables(8, 8);
        distance(0, x, QUEEN, "f6", "g7", "h8", BLACK);
        distance(1, x, QUEEN, "f6", "g1", "h8", WHITE);
        distance(DRAWN, x, QUEEN, "a1", "f7", "h8", BLACK);
        distance(DRAWN, x, KNIGHT, "a1", "f7", "h7", WHITE);
        // A position need not be set, and none is by asking.
        Check.thrown("none is set", IllegalStateException.class, x::left);
    }

    private static void promise3Throws() {
        Check.sentence("IllegalArgumentException when it is none (kind 1 .. 5, side 0 or 1)");
        EndTables x = new EndTables(8, 8);
        for (int kind : WILD) {
            noPosition(x, kind, "a1", "d4", "h7", WHITE);
        }
        for (int side : WILD) {
            noPosition(x, QUEEN, "a1", "d4", "h7", side);
        }
        noPosition(x, QUEEN, "a1", "d4", "h7", 2);
        // Without a man it is a position, but not for this call.
        set(true, x, NOBODY, 0, 0, 63, WHITE);
        Check.thrown("kind 0", IllegalArgumentException.class, () -> x.distance(NOBODY, 0, 0, 63, WHITE));
        Check.thrown("kind 0", IllegalArgumentException.class, () -> x.distance(NOBODY, 0, 9, 63, WHITE));
        noPosition(x, QUEEN, "a1", "a1", "h7", BLACK);
        noPosition(x, QUEEN, "a1", "d4", "b2", BLACK);
        noPosition(x, QUEEN, "a1", "d4", "d8", WHITE);
        noPosition(x, PAWN, "a1", "d8", "h7", WHITE);
        for (int square : new int[] {-1, 64, Integer.MIN_VALUE, Integer.MAX_VALUE}) {
            noPosition(x, QUEEN, square, 27, 55, WHITE);
            noPosition(x, QUEEN, 0, square, 55, WHITE);
            noPosition(x, QUEEN, 0, 27, square, WHITE);
        }
        distance(1, x, QUEEN, "f6", "g1", "h8", WHITE);
    }

    private static void promise4() {
        Check.sentence("How many positions of a kind with that side to move have the distance n; with DRAWN: are drawn.");
        for (int[] size : SIZES) {
            EndTables x = new EndTables(size[0], size[1]);
            for (int kind = PAWN; kind <= QUEEN; kind++) {
                for (int side = WHITE; side <= BLACK; side++) {
                    int sum = 0;
                    int longest = x.longest(kind);
                    for (int n = DRAWN; n <= longest; n++) {
                        sum += x.count(kind, side, n);
                    }
                    int all = sum;
                    Check.due("all of kind " + kind, positions(x, kind, side), () -> all);
                    boolean wins = kind != KNIGHT && kind != BISHOP;
                    Check.yes("some are drawn, or won", wins || x.count(kind, side, DRAWN) == all);
                }
            }
        }
        EndTables x = new EndTables(8, 8);
        Check.due("a rook wins always, if white is to move", 0, () -> x.count(ROOK, WHITE, DRAWN));
        Check.due("none", 0, () -> x.count(KNIGHT, BLACK, 0));
    }

    private static void promise4NoSuchDistance() {
        Check.sentence("How many positions of a kind with that side to move have the distance n: none has it");
        EndTables x = new EndTables(8, 8);
        int[] longest = {0, 56, DRAWN, DRAWN, 32, 20};
        for (int kind = PAWN; kind <= QUEEN; kind++) {
            for (int side = WHITE; side <= BLACK; side++) {
                none(x, kind, side, -2);
                none(x, kind, side, longest[kind] + 1);
                none(x, kind, side, longest[kind] + 2);
                none(x, kind, side, Integer.MIN_VALUE);
                none(x, kind, side, Integer.MAX_VALUE);
                none(x, kind, side, side == WHITE ? 2 : 1);
            }
        }
        // Numbers that are a distance, or DRAWN, but for one binary digit.
        for (int digit = 6; digit < 32; digit++) {
            none(x, QUEEN, WHITE, 1 + (1 << digit));
            none(x, QUEEN, BLACK, 1 << digit);
            none(x, KNIGHT, BLACK, DRAWN ^ 1 << digit);
        }
    }

    private static void none(EndTables x, int kind, int side, int n) {
        Check.due("count(" + kind + ", " + side + ", " + n + ")", 0, () -> x.count(kind, side, n));
        Check.thrown("find(" + kind + ", " + side + ", " + n + ", 0)", IndexOutOfBoundsException.class,
            () -> x.find(kind, side, n, 0));
    }

    private static void promise4Throws() {
        Check.sentence("count: IllegalArgumentException when kind is not 1 .. 5, or side not 0 or 1");
        EndTables x = new EndTables(8, 8);
        Class<IllegalArgumentException> argument = IllegalArgumentException.class;
        for (int wild : WILD) {
            Check.thrown("kind " + wild, argument, () -> x.count(wild, WHITE, 1));
            Check.thrown("side " + wild, argument, () -> x.count(QUEEN, wild, 1));
            Check.thrown("both " + wild, argument, () -> x.count(wild, wild, wild));
        }
        Check.thrown("kind 0", argument, () -> x.count(NOBODY, WHITE, DRAWN));
        Check.thrown("side 2", argument, () -> x.count(QUEEN, 2, 1));
        for (int kind = PAWN; kind <= QUEEN; kind++) {
            int k = kind;
            Check.yes("kind " + k, x.count(k, WHITE, DRAWN) + x.count(k, BLACK, DRAWN) > 0);
        }
    }

    private static void promise5() {
        Check.sentence("The i-th of them (from 0 on); IndexOutOfBoundsException when there are not so many.");
        for (int[] size : SIZES) {
            Fresh fresh = new Fresh(size[0], size[1]);
            for (int i = 0; i < 10; i++) {
                int kind = i / 2 + 1;
                int side = i % 2;
                int longest = fresh.use(1).longest(kind);
                for (int n = DRAWN - 1; n <= longest + 1; n++) {
                    EndTables x = fresh.use(10);
                    ends(x, kind, side, n, x.count(kind, side, n));
                }
            }
        }
    }

    /** The first and the last of them, and the places beyond. */
    private static void ends(EndTables x, int kind, int side, int n, int many) {
        String call = "find(" + kind + ", " + side + ", " + n + ", ";
        for (int i : new int[] {-1, many, many + 1, Integer.MIN_VALUE, Integer.MAX_VALUE}) {
            Check.thrown(call + i + ")", IndexOutOfBoundsException.class, () -> x.find(kind, side, n, i));
        }
        for (int i = 0; i < many; i += Math.max(1, many - 1)) {
            int told = x.find(kind, side, n, i);
            Check.due(call + i + ") = " + told, n,
                () -> x.distance(kind, told % 64, told / 64 % 64, told / 4096, side));
        }
    }

    private static void promise5Order() {
        Check.sentence("by the white king's square, the man's, the black king's: white + 64 * man + 4096 * black");
        EndTables x = new EndTables(8, 8);
        // Behind kings on a1 and c1 with the man on b1 there is none before.
        Check.due("the first", 0 + 64 * 1 + 4096 * 2, () -> x.find(BISHOP, BLACK, DRAWN, 0));
        Check.due("the second", 0 + 64 * 1 + 4096 * 3, () -> x.find(BISHOP, BLACK, DRAWN, 1));
        int all = x.count(BISHOP, BLACK, DRAWN);
        Check.due("the last", 63 + 64 * 62 + 4096 * 61, () -> x.find(BISHOP, BLACK, DRAWN, all - 1));
        for (int[] size : new int[][] {{3, 3}, {4, 4}, {5, 3}}) {
            Fresh fresh = new Fresh(size[0], size[1]);
            int most = fresh.use(1).count(QUEEN, WHITE, 1);
            int before = -1;
            for (int i = 0; i < most; i++) {
                int told = fresh.use(1).find(QUEEN, WHITE, 1, i);
                int order = (told % 64 * 64 + told / 64 % 64) * 64 + told / 4096;
                Check.yes(i + " is behind the one before", order > before);
                before = order;
            }
        }
    }

    private static void promise5Throws() {
        Check.sentence("find: IllegalArgumentException as for count");
        EndTables x = new EndTables(8, 8);
        Class<IllegalArgumentException> argument = IllegalArgumentException.class;
        for (int wild : WILD) {
            Check.thrown("kind " + wild, argument, () -> x.find(wild, WHITE, 1, 0));
            Check.thrown("side " + wild, argument, () -> x.find(QUEEN, wild, 1, 0));
            Check.thrown("both " + wild, argument, () -> x.find(wild, wild, 1, 0));
            // Not so many either.
            Check.thrown("kind " + wild + ", too", argument, () -> x.find(wild, WHITE, 1, -1));
            Check.thrown("side " + wild + ", too", argument, () -> x.find(QUEEN, wild, -2, 0));
        }
        Check.thrown("kind 0", argument, () -> x.find(NOBODY, WHITE, DRAWN, 0));
        Check.thrown("side 2", argument, () -> x.find(QUEEN, 2, 1, Integer.MAX_VALUE));
    }

    private static void promise6() {
        Check.sentence("The greatest distance of a position of a kind; DRAWN when none has one.");
        int[] want = {0, 56, DRAWN, DRAWN, 32, 20};
        for (int[] size : SIZES) {
            EndTables x = new EndTables(size[0], size[1]);
            for (int kind = PAWN; kind <= QUEEN; kind++) {
                int k = kind;
                int longest = x.longest(kind);
                boolean usual = size[0] == 8 && size[1] == 8;
                boolean none = kind == KNIGHT || kind == BISHOP;
                Check.due("longest " + kind, usual ? want[kind] : none ? DRAWN : longest, () -> x.longest(k));
                Check.yes("one has it", x.count(kind, WHITE, longest) + x.count(kind, BLACK, longest) > 0);
                for (int n = longest + 1; n < longest + 20; n++) {
                    int beyond = n;
                    Check.due("beyond", 0, () -> x.count(k, WHITE, beyond) + x.count(k, BLACK, beyond));
                }
            }
        }
        // White has the greatest one, with a pawn on 5x3.
        Check.due("5x3", 15, () -> new EndTables(5, 3).longest(PAWN));
    }

    private static void promise6Throws() {
        Check.sentence("longest: IllegalArgumentException when kind is not 1 .. 5");
        EndTables x = new EndTables(8, 8);
        for (int wild : WILD) {
            Check.thrown("kind " + wild, IllegalArgumentException.class, () -> x.longest(wild));
        }
        Check.thrown("kind 0", IllegalArgumentException.class, () -> x.longest(NOBODY));
        Check.thrown("kind 7", IllegalArgumentException.class, () -> x.longest(7));
    }

    private static void promise9() {
        Check.sentence("The distance of the position that is set; DRAWN. IllegalStateException when none is set.");
        EndTables x = new EndTables(8, 8);
        Check.thrown("none", IllegalStateException.class, x::left);
        put(x, QUEEN, "f6", "g1", "h8", WHITE);
        Check.due("one", 1, x::left);
        put(x, QUEEN, "f6", "g7", "h8", BLACK);
        Check.due("mate", 0, x::left);
        put(x, QUEEN, "a1", "f7", "h8", BLACK);
        Check.due("no check", DRAWN, x::left);
        put(x, NOBODY, "a1", "-", "h8", BLACK);
        Check.due("no man", DRAWN, x::left);
        for (int kind = PAWN; kind <= QUEEN; kind++) {
            put(x, kind, "e6", "e5", "e8", WHITE);
            Check.due("as distance", x.distance(kind, at("e6"), at("e5"), at("e8"), WHITE), x::left);
        }
    }

    private static void promise12() {
        Check.sentence("The best move. IllegalStateException when none is set");
        EndTables x = new EndTables(8, 8);
        Check.thrown("none", IllegalStateException.class, x::best);
        set(false, x, QUEEN, at("f6"), at("f6"), at("h8"), WHITE);
        Check.thrown("none yet", IllegalStateException.class, x::best);
        put(x, QUEEN, "f6", "g1", "h8", WHITE);
        best("g1", "g7", 0, x);
        best("g1", "g7", 0, x);
        stands(x, QUEEN, at("f6"), at("g1"), at("h8"), WHITE);
    }

    private static void promise12NoMove() {
        Check.sentence("or it has no move");
        Class<IllegalStateException> state = IllegalStateException.class;
        Check.thrown("mate", state, board(QUEEN, "f6", "g7", "h8", BLACK)::best);
        Check.thrown("no check", state, board(QUEEN, "a1", "f7", "h8", BLACK)::best);
        Check.thrown("a pawn before black", state, board(PAWN, "a6", "a7", "a8", BLACK)::best);
        Check.thrown("white has none", state, board(PAWN, "a8", "a7", "c7", WHITE)::best);
        best("c1", "b1", 0, board(NOBODY, "c1", "-", "h8", WHITE));
    }
}

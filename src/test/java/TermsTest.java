/**
 * The document's "Terms", sentence by sentence: each one that names an edge (of the board, of what
 * is a position, of what is a move or has a distance) has a test of its own, under its words.
 */
public final class TermsTest extends Boards {
    private static final int[] SQUARES_OFF = {Integer.MIN_VALUE, Integer.MIN_VALUE + 9, -4096, -64, 128, 4096,
        1 << 30, Integer.MAX_VALUE};

    private TermsTest() {
    }

    public static void main(String[] args) {
        filesAndRanks();
        squares();
        men();
        sides();
        pawnsGoUp();
        noManIsTold();
        noManIsNoSquare();
        allDifferent();
        kingsNotNext();
        pawnsNotOnEnds();
        noCheckWithWhiteToMove();
        pawnAttacks();
        knightAttacks();
        linesAttack();
        kingsBar();
        attackedEverywhere();
        check();
        kingMoves();
        kingsKeepAway();
        whiteKingAndItsMan();
        blackKingTakes();
        blackKingAttacked();
        blackKingOffItsOwn();
        manMoves();
        pawnOneUp();
        pawnTwoUp();
        pawnBecomes();
        movesTold();
        movesInOrder();
        Check.end("TermsTest");
    }

    private static void filesAndRanks() {
        Check.sentence("A BOARD has FILES 0 .. f - 1 and RANKS 0 .. r - 1 (f and r 3 to 8).");
        for (int files = 3; files <= 8; files++) {
            for (int ranks = 3; ranks <= 8; ranks++) {
                EndTables x = new EndTables(files, ranks);
                for (int square = -9; square <= 72; square++) {
                    places(x, files, ranks, square);
                }
                for (int square : SQUARES_OFF) {
                    places(x, files, ranks, square);
                }
            }
        }
    }

    /** Whether each of the three may stand on a square. */
    private static void places(EndTables x, int files, int ranks, int square) {
        boolean on = isOn(square, files, ranks);
        int farFile = Math.floorMod(square, 8) * 2 < files - 1 ? files - 1 : 0;
        int farRank = Math.floorDiv(square, 8) * 2 < ranks - 1 ? ranks - 1 : 0;
        int far = farFile + 8 * farRank;
        // In the middle of 3x3 a king leaves none to the other.
        boolean free = on && apart(square, far) >= 2;
        set(free, x, NOBODY, square, 0, far, WHITE);
        set(free, x, NOBODY, far, 0, square, WHITE);
        int last = files - 1 + 8 * (ranks - 1);
        set(on && square != 0 && square != last, x, ROOK, 0, square, last, BLACK);
    }

    private static void squares() {
        Check.sentence("SQUARES are file + 8 * rank.");
        EndTables x = new EndTables(3, 3);
        set(true, x, NOBODY, 0, 0, 18, WHITE);
        order(x, 0 + 64 * 1, 0 + 64 * 8);
        stands(x, NOBODY, 0, 0, 18, WHITE);
        set(true, x, NOBODY, 0, 0, 18, BLACK);
        order(x, 18 + 64 * 10, 18 + 64 * 17);
        Check.due("play", -1, () -> x.play(18 + 64 * 17));
        stands(x, NOBODY, 0, 0, 17, WHITE);
        // A bishop wins nothing, so the drawn ones are all: kings in two corners, or beside them.
        Check.due("the first", 0 + 64 * 1 + 4096 * 2, () -> x.find(BISHOP, BLACK, DRAWN, 0));
        Check.due("the last", 18 + 64 * 17 + 4096 * 16, () -> x.find(BISHOP, BLACK, DRAWN, 223));
    }

    private static void men() {
        Check.sentence("MEN: 1 pawn, 2 knight, 3 bishop, 4 rook, 5 queen; the kings are 6.");
        EndTables x = new EndTables(8, 8);
        put(x, PAWN, "a8", "d2", "h8", WHITE);
        goes(x, "d2", "d3", "d4");
        put(x, KNIGHT, "a8", "d3", "h8", WHITE);
        goes(x, "d3", "c1", "e1", "b2", "f2", "b4", "f4", "c5", "e5");
        put(x, BISHOP, "a8", "d1", "h7", WHITE);
        goes(x, "d1", "c2", "e2", "b3", "f3", "a4", "g4", "h5");
        put(x, ROOK, "a8", "d1", "h7", WHITE);
        goes(x, "d1", "a1", "b1", "c1", "e1", "f1", "g1", "h1", "d2", "d3", "d4", "d5", "d6", "d7", "d8");
        put(x, QUEEN, "a8", "d1", "h7", WHITE);
        goes(x, "d1", "a1", "b1", "c1", "e1", "f1", "g1", "h1", "c2", "d2", "e2", "b3", "d3", "f3", "a4", "d4", "g4",
            "d5", "h5", "d6", "d7", "d8");
        for (int kind : WILD) {
            noPosition(x, kind, "a8", "d1", "h7", WHITE);
            noPosition(x, kind, "a8", "d1", "h7", BLACK);
        }
    }

    private static void sides() {
        Check.sentence("SIDES: 0 white, 1 black.");
        EndTables x = new EndTables(8, 8);
        put(x, ROOK, "a8", "d1", "h7", 0);
        Check.due("white's moves", 14 + 3, x::moves);
        put(x, ROOK, "a8", "d1", "h7", 1);
        Check.due("black's moves", 5, x::moves);
        for (int side : WILD) {
            noPosition(x, ROOK, "a8", "d1", "h7", side);
            set(false, x, NOBODY, at("a8"), 0, at("h7"), side);
        }
        noPosition(x, ROOK, "a8", "d1", "h7", 2);
        noPosition(x, ROOK, "a8", "d1", "h7", 3);
    }

    private static void pawnsGoUp() {
        Check.sentence("The man is white's, and so are pawns, which go up the ranks.");
        goes(board(PAWN, "a1", "d5", "h8", WHITE), "d5", "d6");
        goes(board(PAWN, "a1", "d5", "h8", BLACK), "d5");
        goes(board(QUEEN, "a1", "d5", "h7", BLACK), "d5");
    }

    private static void noManIsTold() {
        Check.sentence("or 0 when there is none any more; 0, and nothing else, is told when there is none");
        EndTables x = new EndTables(8, 8);
        for (int man = -9; man <= 72; man++) {
            set(man == 0, x, NOBODY, at("c3"), man, at("h8"), man & 1);
        }
        for (int man : SQUARES_OFF) {
            set(false, x, NOBODY, at("c3"), man, at("h8"), WHITE);
        }
        set(true, x, NOBODY, at("c3"), 0, at("h8"), BLACK);
        stands(x, NOBODY, at("c3"), 0, at("h8"), BLACK);
        EndTables y = board(KNIGHT, "a1", "g7", "h8", BLACK);
        y.play(move("h8", "g7"));
        stands(y, NOBODY, at("a1"), 0, at("g7"), WHITE);
    }

    private static void noManIsNoSquare() {
        Check.sentence("which is no square then");
        EndTables x = new EndTables(8, 8);
        put(x, NOBODY, "a1", "-", "c1", WHITE);
        goes(x, "a1", "a2");
        put(x, NOBODY, "c1", "-", "a1", BLACK);
        goes(x, "a1", "a2");
        put(x, NOBODY, "b1", "-", "h8", WHITE);
        goes(x, "b1", "a1", "c1", "a2", "b2", "c2");
        put(x, NOBODY, "h8", "-", "b2", BLACK);
        goes(x, "b2", "a1", "b1", "c1", "a2", "c2", "a3", "b3", "c3");
        Check.due("to a1", DRAWN, () -> x.play(move("b2", "a1")));
        stands(x, NOBODY, at("h8"), 0, at("a1"), WHITE);
        // Nor is it one when the man has been taken, nor is the square where that was done.
        put(x, KNIGHT, "b2", "g7", "h8", BLACK);
        x.play(move("h8", "g7"));
        goes(x, "b2", "a1", "b1", "c1", "a2", "c2", "a3", "b3", "c3");
        put(x, KNIGHT, "e8", "g8", "h8", BLACK);
        String[][] line = {{"h8", "g8"}, {"e8", "e7"}, {"g8", "h7"}, {"e7", "f7"}, {"h7", "h6"}};
        for (String[] next : line) {
            Check.due("play", DRAWN, () -> x.play(move(next[0], next[1])));
        }
        goes(x, "f7", "e6", "f6", "e7", "e8", "f8", "g8");
        // With a man it is one.
        put(x, ROOK, "c3", "a1", "h8", BLACK);
        noPosition(x, ROOK, "a1", "a1", "h8", BLACK);
    }

    private static void allDifferent() {
        Check.sentence("squares of the white king, of the man, of the black king, all different");
        EndTables x = new EndTables(8, 8);
        for (int kind = PAWN; kind <= QUEEN; kind++) {
            for (int side = WHITE; side <= BLACK; side++) {
                noPosition(x, kind, "d4", "d4", "g5", side);
                noPosition(x, kind, "d4", "g5", "g5", side);
                noPosition(x, kind, "d4", "e7", "d4", side);
                noPosition(x, kind, "d4", "d4", "d4", side);
                put(x, kind, "d4", "e7", "g5", BLACK);
            }
        }
        set(false, x, NOBODY, at("d4"), 0, at("d4"), WHITE);
        set(false, x, NOBODY, at("d4"), 0, at("d4"), BLACK);
    }

    private static void kingsNotNext() {
        Check.sentence("The kings are not next to each other");
        for (int files = 3; files <= 8; files++) {
            for (int ranks = 3; ranks <= 8; ranks++) {
                Fresh fresh = new Fresh(files, ranks);
                for (int i = 0; i < 64 * 64; i++) {
                    int white = i / 64;
                    int black = i % 64;
                    if (isOn(white, files, ranks) && isOn(black, files, ranks)) {
                        set(apart(white, black) > 1, fresh.use(1), NOBODY, white, 0, black, (white + black) & 1);
                    }
                }
            }
        }
        EndTables x = new EndTables(8, 8);
        for (int kind = PAWN; kind <= QUEEN; kind++) {
            noPosition(x, kind, "d4", "a7", "e5", WHITE);
            noPosition(x, kind, "d4", "a7", "d5", BLACK);
            put(x, kind, "d4", "b7", "f4", WHITE);
            put(x, kind, "h4", "g7", "a5", WHITE);
        }
    }

    private static void pawnsNotOnEnds() {
        Check.sentence("a pawn is neither on rank 0 nor on rank r - 1");
        for (int files = 3; files <= 8; files++) {
            for (int ranks = 3; ranks <= 8; ranks++) {
                EndTables x = new EndTables(files, ranks);
                for (int man = 0; man < 8 * ranks; man++) {
                    if (man % 8 < files) {
                        pawnOn(x, files, ranks, man);
                    }
                }
            }
        }
    }

    private static void pawnOn(EndTables x, int files, int ranks, int man) {
        int rank = man / 8;
        int kings = rank * 2 < ranks ? 8 * (ranks - 1) : 0;
        if (rank == 0 || rank == ranks - 1) {
            noPosition(x, PAWN, kings, man, kings + files - 1, BLACK);
        } else {
            set(true, x, PAWN, kings, man, kings + files - 1, BLACK);
            Check.yes("distance", x.distance(PAWN, kings, man, kings + files - 1, BLACK) >= DRAWN);
        }
        // The other men may stand there.
        set(true, x, KNIGHT, kings, man, kings + files - 1, BLACK);
    }

    private static void noCheckWithWhiteToMove() {
        Check.sentence("and black is not in check when white is to move");
        EndTables x = new EndTables(8, 8);
        String[][] checks = {{}, {"d5", "f5"}, {"c3", "d2", "f2", "g3", "c5", "d6", "f6", "g5"},
            {"b1", "d3", "f3", "h1", "d5", "b7", "f5", "h7"}, {"e1", "e3", "b4", "d4", "f4", "h4", "e5", "e8"},
            {"b1", "h1", "b7", "h7", "e1", "e3", "b4", "h4", "e5", "e8"}};
        for (int kind = PAWN; kind <= QUEEN; kind++) {
            for (String black : checks[kind]) {
                String white = apart(at(black), at("a6")) > 1 ? "a6" : "a2";
                noPosition(x, kind, white, "e4", black, WHITE);
                put(x, kind, white, "e4", black, BLACK);
            }
            put(x, kind, "a6", "e4", kind == KNIGHT ? "e5" : "g5", WHITE);
        }
    }

    /** The man checks on these squares, and black may be there with black to move alone. */
    private static void checks(int kind, String white, String man, String... blacks) {
        for (String black : blacks) {
            Check.due(kind + white + man + black, 1, () -> board(kind, white, man, black, BLACK).about(5));
        }
    }

    private static void checksNot(int kind, String white, String man, String... blacks) {
        for (String black : blacks) {
            Check.due(kind + white + man + black, 0, () -> board(kind, white, man, black, BLACK).about(5));
            Check.due(kind + white + man + black, 0, () -> board(kind, white, man, black, WHITE).about(5));
        }
    }

    private static void pawnAttacks() {
        Check.sentence("a pawn those one rank up and one file aside");
        checks(PAWN, "h1", "d4", "c5", "e5");
        checksNot(PAWN, "h1", "d4", "d5", "d6", "c4", "e4", "c3", "d3", "e3", "b5", "f5", "b6", "c6", "e6", "f6");
        // Not over the edge: h4 and a5, a6 follow each other's numbers.
        checks(PAWN, "d1", "a4", "b5");
        checks(PAWN, "d1", "h4", "g5");
        checksNot(PAWN, "d1", "a4", "h4", "h5", "h6", "h3");
        checksNot(PAWN, "d1", "h4", "a4", "a5", "a6", "a3");
        checks(PAWN, "d1", "d7", "c8", "e8");
        EndTables x = new EndTables(3, 4);
        set(true, x, PAWN, 0, 10, 17, BLACK);
        Check.due("on 3x4", 1, () -> x.about(5));
        set(true, x, PAWN, 0, 10, 24, BLACK);
        Check.due("on 3x4", 0, () -> x.about(5));
    }

    private static void knightAttacks() {
        Check.sentence("a knight those two away along and one across");
        checks(KNIGHT, "h1", "d4", "c2", "e2", "b3", "f3", "b5", "f5", "c6", "e6");
        checksNot(KNIGHT, "h1", "d4", "d3", "c3", "e5", "d6", "b4", "b2", "f6", "b6", "a4", "a5", "e7", "g5", "c4");
        checks(KNIGHT, "h8", "a1", "c2", "b3");
        // Not over the edge, but over others.
        checksNot(KNIGHT, "d8", "h4", "a3", "b4", "a5", "b6", "a7");
        checksNot(KNIGHT, "d8", "a4", "h1", "g2", "h3", "g4", "h5");
        goes(board(KNIGHT, "b2", "b1", "h8", WHITE), "b1", "d2", "a3", "c3");
    }

    private static void linesAttack() {
        Check.sentence("a bishop, rook, queen those along diagonals, along files and ranks, or both");
        String[] diagonals = {"a1", "b2", "c3", "e5", "h8", "a7", "c5", "e3", "g1"};
        String[] straights = {"d1", "d3", "d5", "d8", "a4", "c4", "e4", "h4"};
        String[] others = {"c2", "e6", "b3", "f5", "g2", "a8", "h3", "b7"};
        for (int kind = BISHOP; kind <= QUEEN; kind++) {
            for (String black : diagonals) {
                line(kind != ROOK, kind, black);
            }
            for (String black : straights) {
                line(kind != BISHOP, kind, black);
            }
            for (String black : others) {
                line(false, kind, black);
            }
        }
        // Not over the edge.
        checksNot(ROOK, "d1", "h4", "a5");
        checksNot(ROOK, "d1", "a5", "h4");
        checksNot(BISHOP, "d1", "h4", "a4", "a6");
        checksNot(BISHOP, "d1", "a5", "h3", "h5");
        checksNot(QUEEN, "d1", "h4", "a5", "a6");
        checksNot(QUEEN, "d1", "a5", "h3", "h4");
    }

    /** The man is on d4; white's king is out of its ways. */
    private static void line(boolean want, int kind, String black) {
        String white = apart(at("g6"), at(black)) > 1 ? "g6" : "c7";
        if (want) {
            checks(kind, white, "d4", black);
        } else {
            checksNot(kind, white, "d4", black);
        }
    }

    private static void kingsBar() {
        Check.sentence("over empty squares (each king bars the way)");
        checksNot(ROOK, "d4", "a4", "f4", "h4");
        checksNot(ROOK, "a4", "a1", "a6", "a8");
        checksNot(BISHOP, "d4", "a1", "f6", "h8");
        checksNot(QUEEN, "d4", "d1", "d6", "d8");
        checksNot(QUEEN, "d4", "g1", "b6", "a7");
        // Beside the way, or behind black's king, it bars nothing.
        checks(ROOK, "d5", "a4", "f4", "h4");
        checks(ROOK, "h4", "a4", "f4", "d4");
        checks(BISHOP, "h8", "a1", "f6", "d4");
        goes(board(ROOK, "d4", "b4", "h8", WHITE), "b4", "b1", "b2", "b3", "a4", "c4", "b5", "b6", "b7", "b8");
        goes(board(BISHOP, "d4", "b2", "h7", WHITE), "b2", "a1", "c1", "a3", "c3");
        goes(board(QUEEN, "b3", "a3", "h7", WHITE), "a3", "a1", "c1", "a2", "b2", "a4", "b4", "a5", "c5", "a6", "d6",
            "a7", "e7", "a8", "f8");
        goes(board(BISHOP, "b2", "a1", "h7", WHITE), "a1");
    }

    private static void attackedEverywhere() {
        Check.sentence("The man ATTACKS a square");
        int[][] sizes = {{8, 8}, {3, 8}, {8, 3}, {5, 4}, {3, 3}};
        for (int[] size : sizes) {
            Reference ref = new Reference(size[0], size[1]);
            Fresh fresh = new Fresh(size[0], size[1]);
            for (int i = 0; i < 5 * 64 * 64; i++) {
                int kind = i / 4096 + 1;
                attacked(ref, fresh, kind, i / 64 % 64, i % 64, i % 7);
            }
        }
    }

    private static void attacked(Reference ref, Fresh fresh, int kind, int man, int black, int from) {
        for (int k = 0; k < 64; k++) {
            int white = (from * 9 + k) % 64;
            if (ref.isPosition(kind, white, man, black, BLACK)) {
                EndTables x = fresh.use(3);
                boolean check = Reference.attacks(kind, man, black, white);
                set(!check, x, kind, white, man, black, WHITE);
                set(true, x, kind, white, man, black, BLACK);
                Check.due("check" + call(kind, white, man, black, BLACK), check ? 1 : 0, () -> x.about(5));
                return;
            }
        }
    }

    private static void check() {
        Check.sentence("Black is IN CHECK when the man attacks its king.");
        checks(QUEEN, "f6", "g7", "h8");
        checksNot(QUEEN, "f6", "g5", "h8");
        // Its own square is attacked by no man, and white's king checks nobody.
        Check.due("no man", 0, () -> board(NOBODY, "f6", "-", "h8", BLACK).about(5));
        Check.due("no man, on a1", 0, () -> board(NOBODY, "c2", "-", "a1", BLACK).about(5));
        Check.due("taken", 0, () -> {
            EndTables x = board(QUEEN, "a1", "g7", "h8", BLACK);
            x.play(move("h8", "g7"));
            return x.about(5);
        });
    }

    private static void kingMoves() {
        Check.sentence("a king goes to a square next to its own");
        String[][] ways = {{"a1", "b1", "a2", "b2"}, {"h1", "g1", "g2", "h2"}, {"a8", "a7", "b7", "b8"},
            {"h8", "g7", "h7", "g8"}, {"d1", "c1", "e1", "c2", "d2", "e2"}, {"d8", "c7", "d7", "e7", "c8", "e8"},
            {"a4", "a3", "b3", "b4", "a5", "b5"}, {"h4", "g3", "h3", "g4", "g5", "h5"},
            {"d4", "c3", "d3", "e3", "c4", "e4", "c5", "d5", "e5"}};
        for (String[] way : ways) {
            String[] to = java.util.Arrays.copyOfRange(way, 1, way.length);
            String far = at(way[0]) / 8 < 4 ? (at(way[0]) % 8 < 4 ? "h8" : "a8") : at(way[0]) % 8 < 4 ? "h1" : "a1";
            goes(board(NOBODY, way[0], "-", far, WHITE), way[0], to);
            goes(board(NOBODY, far, "-", way[0], BLACK), way[0], to);
        }
        // The edges of a smaller board.
        EndTables x = new EndTables(4, 5);
        set(true, x, NOBODY, at("d5"), 0, at("a1"), WHITE);
        goes(x, "d5", "c4", "d4", "c5");
        set(true, x, NOBODY, at("a1"), 0, at("d3"), BLACK);
        goes(x, "d3", "c2", "d2", "c3", "c4", "d4");
    }

    private static void kingsKeepAway() {
        Check.sentence("that is not next to the other king's");
        goes(board(NOBODY, "e4", "-", "e6", WHITE), "e4", "d3", "e3", "f3", "d4", "f4");
        goes(board(NOBODY, "e4", "-", "e6", BLACK), "e6", "d6", "f6", "d7", "e7", "f7");
        goes(board(NOBODY, "e4", "-", "g6", WHITE), "e4", "d3", "e3", "f3", "d4", "f4", "d5", "e5");
        goes(board(NOBODY, "g6", "-", "e4", BLACK), "e4", "d3", "e3", "f3", "d4", "f4", "d5", "e5");
        goes(board(NOBODY, "c1", "-", "a1", BLACK), "a1", "a2");
        // a4 and h5, or a4 and h3, are not next to each other.
        goes(board(NOBODY, "a4", "-", "h4", WHITE), "a4", "a3", "b3", "b4", "a5", "b5");
        goes(board(NOBODY, "a4", "-", "h5", BLACK), "h5", "g4", "h4", "g5", "g6", "h6");
        // So is taking a man that the other king is next to.
        goes(board(PAWN, "g6", "g7", "g8", BLACK), "g8");
        EndTables x = new EndTables(3, 3);
        set(true, x, NOBODY, 0, 0, 2, WHITE);
        goes(x, "a1", "a2");
    }

    private static void whiteKingAndItsMan() {
        Check.sentence("White's king doesn't go to its man's square");
        goes(board(ROOK, "a1", "b1", "h8", WHITE), "a1", "a2", "b2");
        goes(board(KNIGHT, "a1", "a2", "h8", WHITE), "a1", "b1", "b2");
        goes(board(PAWN, "a1", "b2", "h8", WHITE), "a1", "b1", "a2");
        goes(board(QUEEN, "d4", "d5", "h8", WHITE), "d4", "c3", "d3", "e3", "c4", "e4", "c5", "e5");
        goes(board(BISHOP, "h8", "h7", "a1", WHITE), "h8", "g7", "g8");
        // The man on the board's first square is one, too.
        goes(board(ROOK, "b1", "a1", "h8", WHITE), "b1", "c1", "a2", "b2", "c2");
    }

    private static void blackKingTakes() {
        Check.sentence("the black king may go there, and takes the man, if the white king is not next to it");
        String[] places = {"d3", "e3", "f3", "d4", "f4", "d5", "e5", "f5"};
        for (int kind = PAWN; kind <= QUEEN; kind++) {
            for (String man : places) {
                taken(kind, "a8", man, "e4");
            }
            taken(kind, "d1", "b2", "a1");
        }
        // White's king is next to the man, so it's not taken.
        goes(board(PAWN, "d3", "e2", "e1", BLACK), "e1", "d1", "f1", "f2");
        goes(board(KNIGHT, "d3", "e2", "e1", BLACK), "e1", "d1", "f1", "f2");
        goes(board(BISHOP, "d3", "e2", "e1", BLACK), "e1", "f2");
        goes(board(ROOK, "d3", "e2", "e1", BLACK), "e1", "d1", "f1");
        goes(board(QUEEN, "d3", "e2", "e1", BLACK), "e1");
        // A king that would be next to it round the edge, or two away, guards nothing.
        taken(ROOK, "a5", "h4", "g5");
        taken(QUEEN, "f5", "g7", "h8");
        goes(board(QUEEN, "f6", "g7", "h8", BLACK), "h8");
        goes(board(QUEEN, "f8", "g7", "h8", BLACK), "h8");
    }

    private static void taken(int kind, String white, String man, String black) {
        EndTables x = board(kind, white, man, black, BLACK);
        Check.due("takes " + kind + " on " + man, DRAWN, () -> x.play(move(black, man)));
        stands(x, NOBODY, at(white), 0, at(man), WHITE);
    }

    private static void blackKingAttacked() {
        Check.sentence("but not to a square that the man attacks");
        goes(board(PAWN, "a1", "d4", "d6", BLACK), "d6", "d5", "c6", "e6", "c7", "d7", "e7");
        goes(board(PAWN, "d1", "h4", "h6", BLACK), "h6", "h5", "g6", "g7", "h7");
        goes(board(KNIGHT, "a1", "e4", "e6", BLACK), "e6", "d5", "e5", "f5", "d7", "e7", "f7");
        goes(board(BISHOP, "a1", "d4", "e6", BLACK), "e6", "d5", "f5", "d6", "d7", "e7", "f7");
        goes(board(ROOK, "a1", "f8", "e6", BLACK), "e6", "d5", "e5", "d6", "d7", "e7");
        goes(board(QUEEN, "a1", "f8", "h7", BLACK), "h7", "g6");
        // White's king bars the rook.
        goes(board(ROOK, "c4", "a4", "f5", BLACK), "f5", "e4", "f4", "g4", "e5", "g5", "e6", "f6", "g6");
    }

    private static void blackKingOffItsOwn() {
        Check.sentence("(when the black king is off its own)");
        goes(board(ROOK, "a8", "e1", "e5", BLACK), "e5", "d4", "f4", "d5", "f5", "d6", "f6");
        goes(board(ROOK, "h8", "a5", "e5", BLACK), "e5", "d4", "e4", "f4", "d6", "e6", "f6");
        goes(board(BISHOP, "h1", "b2", "d4", BLACK), "d4", "d3", "e3", "c4", "e4", "c5", "d5");
        goes(board(BISHOP, "h8", "b6", "d4", BLACK), "d4", "c3", "d3", "c4", "e4", "d5", "e5");
        goes(board(QUEEN, "h8", "a1", "d4", BLACK), "d4", "d3", "e3", "c4", "e4", "c5", "d5");
        Check.due("mate behind its own square", 0, () -> board(ROOK, "b3", "h1", "b1", BLACK).left());
    }

    private static void manMoves() {
        Check.sentence("The man, but a pawn, goes where it attacks, but not to a king's square");
        goes(board(KNIGHT, "c3", "b1", "h8", WHITE), "b1", "d2", "a3");
        goes(board(KNIGHT, "h8", "a1", "d7", WHITE), "a1", "c2", "b3");
        goes(board(ROOK, "a2", "a1", "h8", WHITE), "a1", "b1", "c1", "d1", "e1", "f1", "g1", "h1");
        goes(board(BISHOP, "c2", "d1", "h8", WHITE), "d1", "e2", "f3", "g4", "h5");
        goes(board(QUEEN, "b2", "a1", "h7", WHITE), "a1", "b1", "c1", "d1", "e1", "f1", "g1", "h1", "a2", "a3", "a4",
            "a5", "a6", "a7", "a8");
        EndTables x = new EndTables(4, 3);
        set(true, x, ROOK, 0, 11, 16, WHITE);
        goes(x, "d2", "d1", "a2", "b2", "c2", "d3");
        EndTables y = new EndTables(3, 3);
        set(true, y, KNIGHT, 0, 9, 2, WHITE);
        goes(y, "b2");
        goes(y, "a1", "a2");
    }

    private static void pawnOneUp() {
        Check.sentence("a pawn goes one rank up to an empty square");
        goes(board(PAWN, "h1", "d4", "h8", WHITE), "d4", "d5");
        goes(board(PAWN, "h1", "a3", "h8", WHITE), "a3", "a4");
        goes(board(PAWN, "d5", "d4", "h8", WHITE), "d4");
        goes(board(PAWN, "h1", "d4", "d5", WHITE), "d4");
        goes(board(PAWN, "h1", "d4", "d6", WHITE), "d4", "d5");
        goes(board(PAWN, "a8", "a7", "h8", WHITE), "a7");
        goes(board(PAWN, "h1", "a7", "a8", WHITE), "a7");
    }

    private static void pawnTwoUp() {
        Check.sentence("and from rank 1 two ranks up over an empty square to an empty one that is not on rank r - 1");
        goes(board(PAWN, "h1", "d2", "h8", WHITE), "d2", "d3", "d4");
        goes(board(PAWN, "h1", "h2", "a8", WHITE), "h2", "h3", "h4");
        goes(board(PAWN, "h1", "d3", "h8", WHITE), "d3", "d4");
        // Not over a king, and not to one.
        goes(board(PAWN, "d3", "d2", "h8", WHITE), "d2");
        goes(board(PAWN, "h1", "d2", "d3", WHITE), "d2");
        goes(board(PAWN, "d4", "d2", "h8", WHITE), "d2", "d3");
        goes(board(PAWN, "h1", "d2", "d4", WHITE), "d2", "d3");
        goes(board(PAWN, "h1", "d2", "d5", WHITE), "d2", "d3", "d4");
        for (int ranks = 3; ranks <= 8; ranks++) {
            EndTables x = new EndTables(5, ranks);
            set(true, x, PAWN, at("e1"), at("a2"), at("e3"), WHITE);
            if (ranks == 3) {
                goes(x, "a2", "a3", "a3", "a3", "a3");
            } else if (ranks == 4) {
                goes(x, "a2", "a3");
            } else {
                goes(x, "a2", "a3", "a4");
                Check.due("to rank 3 of " + ranks, x.distance(PAWN, at("e1"), at("a4"), at("e3"), BLACK),
                    () -> x.play(move("a2", "a4")));
                stands(x, PAWN, at("e1"), at("a4"), at("e3"), BLACK);
            }
        }
    }

    private static void pawnBecomes() {
        Check.sentence("On rank r - 1 the pawn becomes a knight, bishop, rook or queen.");
        for (int ranks = 3; ranks <= 8; ranks++) {
            EndTables x = new EndTables(5, ranks);
            int from = 8 * (ranks - 2);
            int told = from + 64 * (from + 8);
            for (int m = -1; m <= 8; m++) {
                set(true, x, PAWN, at("c1"), from, at("e1"), WHITE);
                int move = told + 4096 * m;
                if (m < KNIGHT || m > QUEEN) {
                    Check.thrown("becomes " + m, IllegalArgumentException.class, () -> x.play(move));
                    stands(x, PAWN, at("c1"), from, at("e1"), WHITE);
                } else {
                    Check.due("becomes " + m, x.distance(m, at("c1"), from + 8, at("e1"), BLACK), () -> x.play(move));
                    stands(x, m, at("c1"), from + 8, at("e1"), BLACK);
                }
            }
            notYet(x, ranks, at("a2"));
        }
    }

    /** Below the last rank it becomes nothing. */
    private static void notYet(EndTables x, int ranks, int from) {
        if (ranks < 4) {
            return;
        }
        for (int m = PAWN; m <= 6; m++) {
            int move = from + 64 * (from + 8) + 4096 * m;
            set(true, x, PAWN, at("c1"), from, at("e1"), WHITE);
            Check.thrown("becomes " + m, IllegalArgumentException.class, () -> x.play(move));
        }
        Check.due("goes up", x.distance(PAWN, at("c1"), from + 8, at("e1"), BLACK), () -> x.play(from + 64 * (from + 8)));
    }

    private static void movesTold() {
        Check.sentence("A MOVE IS TOLD as from + 64 * to + 4096 * m (m the man that the pawn becomes, else 0)");
        order(board(NOBODY, "h8", "-", "f8", WHITE), 63 + 64 * 55);
        order(board(NOBODY, "c1", "-", "a1", BLACK), 0 + 64 * 8);
        order(board(PAWN, "a1", "h7", "c1", WHITE), 0 + 64 * 8, 55 + 64 * 63 + 4096 * 2, 55 + 64 * 63 + 4096 * 3,
            55 + 64 * 63 + 4096 * 4, 55 + 64 * 63 + 4096 * 5);
        order(board(PAWN, "a1", "h6", "c1", WHITE), 0 + 64 * 8, 47 + 64 * 55);
    }

    private static void movesInOrder() {
        Check.sentence("moves are IN ORDER by from, to, m");
        // The king's square is the lesser one, or the man's.
        order(board(PAWN, "a1", "b7", "c1", WHITE), 0 + 64 * 8, 49 + 64 * 57 + 4096 * 2,
            49 + 64 * 57 + 4096 * 3, 49 + 64 * 57 + 4096 * 4, 49 + 64 * 57 + 4096 * 5);
        order(board(PAWN, "h8", "b7", "f8", WHITE), 49 + 64 * 57 + 4096 * 2, 49 + 64 * 57 + 4096 * 3,
            49 + 64 * 57 + 4096 * 4, 49 + 64 * 57 + 4096 * 5, 63 + 64 * 55);
        order(board(BISHOP, "h8", "a1", "f8", WHITE), 0 + 64 * 9, 0 + 64 * 18, 0 + 64 * 27, 0 + 64 * 36, 0 + 64 * 45,
            0 + 64 * 54, 63 + 64 * 55);
        for (int kind = PAWN; kind <= QUEEN; kind++) {
            for (String man : new String[] {"c2", "d4", "f5", "c7"}) {
                ascending(board(kind, "e2", man, "g7", BLACK));
                ascending(board(kind, "e5", man, "h2", BLACK));
                ascending(board(kind, "e2", man, "b5", BLACK));
            }
        }
    }

    /** The moves of black, and those of white behind the last of these. */
    private static void ascending(EndTables x) {
        ordered(x);
        if (x.moves() > 0) {
            x.play(x.move(x.moves() - 1));
            ordered(x);
        }
    }

    private static void ordered(EndTables x) {
        int before = -1;
        for (int k = 0; k < x.moves(); k++) {
            int told = x.move(k);
            int order = (told % 64 * 64 + told / 64 % 64) * 8 + told / 4096;
            Check.yes("move " + k + " is behind the one before", order > before);
            before = order;
        }
    }
}

/** Each promise by ordinary calls, by the edges that the document names, and by wrong calls. */
public final class PromiseTest extends Boards {
    private PromiseTest() {
    }

    public static void main(String[] args) {
        promise1();
        promise2();
        promise3();
        promise3Pawns();
        promise3NoPosition();
        promise4();
        promise5();
        promise6();
        promise7();
        promise7Refused();
        promise8();
        promise9();
        promise10();
        promise11();
        promise11Pawns();
        promise12();
        promise13();
        promise13Refused();
        promise14();
        throwingChangesNothing();
        wildCalls();
        Check.end("PromiseTest");
    }

    private static void promise1() {
        Check.due("DRAWN", -1, () -> EndTables.DRAWN);
        nothingSet(new EndTables(8, 8));
        nothingSet(new EndTables(3, 3));
        EndTables x = new EndTables(4, 5);
        x.distance(QUEEN, 0, 3, 25, WHITE);
        x.count(PAWN, WHITE, 3);
        nothingSet(x);
        Check.yes("a set that is none", !x.set(QUEEN, 0, 0, 24, WHITE));
        nothingSet(x);
    }

    private static void promise2() {
        for (int files = -1; files <= 10; files++) {
            for (int ranks = -1; ranks <= 10; ranks++) {
                size(files, ranks);
            }
        }
        for (int wild : WILD) {
            size(wild, 5);
            size(4, wild);
        }
    }

    private static void size(int files, int ranks) {
        EndTables x = new EndTables(files, ranks);
        int f = files >= 3 && files <= 8 ? files : 8;
        int r = ranks >= 3 && ranks <= 8 ? ranks : 8;
        Check.due("size(false) of " + files + "x" + ranks, f, () -> x.size(false));
        Check.due("size(true) of " + files + "x" + ranks, r, () -> x.size(true));
    }

    private static void promise3() {
        EndTables x = new EndTables(8, 8);
        distance(0, x, QUEEN, "f6", "g7", "h8", BLACK);
        distance(1, x, QUEEN, "f6", "g1", "h8", WHITE);
        distance(0, x, ROOK, "g6", "a8", "g8", BLACK);
        distance(1, x, ROOK, "g6", "a1", "g8", WHITE);
        // No check and no move is no mate.
        distance(-1, x, QUEEN, "a1", "f7", "h8", BLACK);
        distance(-1, x, PAWN, "a6", "a7", "a8", BLACK);
        // The man is lost at once.
        distance(-1, x, QUEEN, "a1", "g7", "h8", BLACK);
        distance(-1, x, ROOK, "a1", "g8", "h8", BLACK);
        // The king that goes away along the line is still attacked behind its own square.
        distance(0, x, ROOK, "b3", "h1", "b1", BLACK);
        // No check and no move, with white's king beside the queen's way.
        distance(-1, x, QUEEN, "c1", "h2", "a1", BLACK);
        distance(0, x, ROOK, "c2", "a8", "a1", BLACK);
        Check.yes("barred", x.distance(ROOK, at("a3"), at("a8"), at("a1"), BLACK) > 0);
        // Neither a knight nor a bishop mates.
        distance(-1, x, KNIGHT, "b3", "c3", "a1", WHITE);
        distance(-1, x, BISHOP, "b3", "c3", "a1", BLACK);
        EndTables small = new EndTables(5, 3);
        Check.due("5x3", 3, () -> small.distance(QUEEN, 2, 0, 4, WHITE));
        Check.due("5x3", 5, () -> small.distance(QUEEN, 2, 3, 0, WHITE));
    }

    private static void promise3Pawns() {
        EndTables x = new EndTables(8, 8);
        // It becomes a rook or a queen and mates.
        distance(1, x, PAWN, "g6", "a7", "g8", WHITE);
        // The king in front of a pawn at the edge.
        distance(-1, x, PAWN, "b6", "a6", "a8", WHITE);
        distance(-1, x, PAWN, "h1", "a2", "a8", WHITE);
        // Opposition: with white's king in front it's won, whoever moves, on the sixth rank.
        Check.yes("won", x.distance(PAWN, at("e6"), at("e5"), at("e8"), WHITE) > 0);
        Check.yes("won", x.distance(PAWN, at("e6"), at("e5"), at("e8"), BLACK) > 0);
        distance(-1, x, PAWN, "e5", "e4", "e7", WHITE);
        Check.yes("won", x.distance(PAWN, at("e5"), at("e4"), at("e7"), BLACK) > 0);
        distance(-1, x, PAWN, "a1", "e5", "e6", BLACK);
    }

    private static void promise3NoPosition() {
        EndTables x = new EndTables(8, 8);
        Check.thrown("kind 0", IllegalArgumentException.class, () -> x.distance(0, 0, 0, 20, WHITE));
        for (int kind : new int[] {-1, 6, 7, Integer.MIN_VALUE, Integer.MAX_VALUE}) {
            noPosition(x, kind, 0, 10, 20, WHITE);
        }
        for (int side : new int[] {-1, 2, Integer.MIN_VALUE, Integer.MAX_VALUE}) {
            noPosition(x, KNIGHT, 0, 10, 30, side);
        }
        noPosition(x, ROOK, 10, 10, 20, BLACK);
        noPosition(x, ROOK, 10, 20, 20, BLACK);
        noPosition(x, ROOK, 10, 20, 10, BLACK);
        for (int near : new int[] {18, 19, 20, 26, 28, 34, 35, 36}) {
            noPosition(x, ROOK, 27, 0, near, BLACK);
        }
        // Files are no ring: h1 is not next to a2.
        Check.yes("h1 and a2", x.distance(KNIGHT, 7, 30, 8, BLACK) == -1);
        for (int file = 0; file < 8; file++) {
            noPosition(x, PAWN, 20, file, 40, WHITE);
            noPosition(x, PAWN, 20, 56 + file, 40, WHITE);
        }
        noPosition(x, QUEEN, at("a1"), at("h1"), at("h8"), WHITE);
        noPosition(x, BISHOP, at("b1"), at("a1"), at("h8"), WHITE);
        noPosition(x, KNIGHT, at("a1"), at("f7"), at("h8"), WHITE);
        noPosition(x, PAWN, at("a1"), at("e4"), at("f5"), WHITE);
        noPosition(x, PAWN, at("a1"), at("e4"), at("d5"), WHITE);
        // Barred by white's king, or not attacked by a pawn: positions.
        Check.yes("barred", x.set(QUEEN, at("h4"), at("h1"), at("h8"), WHITE));
        Check.yes("before a pawn", x.set(PAWN, at("a1"), at("e4"), at("e5"), WHITE));
        Check.yes("beside a pawn", x.set(PAWN, at("a1"), at("e4"), at("d4"), WHITE));
        Check.yes("below a pawn", x.set(PAWN, at("a1"), at("e4"), at("d3"), WHITE));
        noSquares();
    }

    private static void noSquares() {
        EndTables x = new EndTables(8, 8);
        EndTables small = new EndTables(4, 5);
        for (int s : new int[] {-1, -8, 64, 65, Integer.MIN_VALUE, Integer.MAX_VALUE}) {
            noPosition(x, ROOK, s, 10, 30, BLACK);
            noPosition(x, ROOK, 10, s, 30, BLACK);
            noPosition(x, ROOK, 10, 30, s, BLACK);
        }
        for (int s : new int[] {4, 7, 12, 36, 40, 43}) {
            noPosition(small, ROOK, s, 9, 27, BLACK);
            noPosition(small, ROOK, 0, s, 27, BLACK);
            noPosition(small, ROOK, 0, 27, s, BLACK);
        }
        noPosition(small, PAWN, 0, 32, 19, WHITE);
        Check.yes("a pawn on rank 3 of 5", small.set(PAWN, 0, 27, 19, WHITE));
        EndTables three = new EndTables(3, 3);
        noPosition(three, PAWN, 0, 16, 2, BLACK);
        Check.yes("a pawn on rank 1 of 3", three.set(PAWN, 0, 9, 2, BLACK));
    }

    private static void promise4() {
        EndTables x = new EndTables(8, 8);
        // Chess players have counted these.
        Check.due("mates by a rook", 216, () -> x.count(ROOK, BLACK, 0));
        Check.due("mates by a queen", 364, () -> x.count(QUEEN, BLACK, 0));
        Check.due("longest by a rook", 0, () -> x.count(ROOK, WHITE, 33));
        Check.due("no rook is drawn with white to move", 0, () -> x.count(ROOK, WHITE, -1));
        for (int n : new int[] {Integer.MIN_VALUE, -65, -63, -3, -2, 2, 63, 64, 65, 127, 128, 255, 1 << 30,
            Integer.MAX_VALUE}) {
            Check.due("count " + n, 0, () -> x.count(QUEEN, WHITE, n));
        }
        Check.due("no white to move is mate", 0, () -> x.count(QUEEN, WHITE, 0));
        Check.due("black's are even", 0, () -> x.count(QUEEN, BLACK, 1));
        for (int n : new int[] {-3, -2, 1, 3, 64, Integer.MIN_VALUE, Integer.MAX_VALUE}) {
            Check.due("count " + n, 0, () -> x.count(QUEEN, BLACK, n));
        }
        for (int wrong : new int[] {-1, 2, 3, Integer.MIN_VALUE, Integer.MAX_VALUE}) {
            Check.thrown("side " + wrong, IllegalArgumentException.class, () -> x.count(QUEEN, wrong, 1));
        }
        for (int wrong : new int[] {-1, 0, 6, Integer.MIN_VALUE, Integer.MAX_VALUE}) {
            Check.thrown("kind " + wrong, IllegalArgumentException.class, () -> x.count(wrong, 0, 1));
        }
        EndTables three = new EndTables(3, 3);
        Check.due("3x3", 48, () -> three.count(QUEEN, WHITE, 1));
        Check.due("3x3", 104, () -> three.count(QUEEN, BLACK, -1));
        Check.due("3x3", 19, () -> three.count(PAWN, WHITE, -1));
        Check.due("3x3, all knights", positions(three, KNIGHT, WHITE), () -> three.count(KNIGHT, WHITE, -1));
        Check.due("3x3, all bishops", positions(three, BISHOP, BLACK), () -> three.count(BISHOP, BLACK, -1));
    }

    private static void promise5() {
        EndTables x = new EndTables(8, 8);
        int before = -1;
        for (int i = 0; i < 120; i++) {
            int k = i;
            int told = x.find(ROOK, BLACK, 0, i);
            int order = (told % 64 * 64 + told / 64 % 64) * 64 + told / 4096;
            Check.yes("in order at " + i, order > before);
            before = order;
            Check.due("found " + i, 0, () -> x.distance(ROOK, told % 64, told / 64 % 64, told / 4096, BLACK));
            Check.due("again " + i, told, () -> x.find(ROOK, BLACK, 0, k));
        }
        Class<IndexOutOfBoundsException> index = IndexOutOfBoundsException.class;
        for (int i : new int[] {216, 217, -1, Integer.MIN_VALUE, Integer.MAX_VALUE}) {
            Check.thrown("find " + i, index, () -> x.find(ROOK, BLACK, 0, i));
        }
        Check.thrown("none has it", index, () -> x.find(ROOK, WHITE, 0, 0));
        Check.thrown("none has it", index, () -> x.find(ROOK, WHITE, -2, 0));
        Check.thrown("none has it", index, () -> x.find(BISHOP, WHITE, 1, 0));
        Check.thrown("kind first", IllegalArgumentException.class, () -> x.find(0, WHITE, 1, -1));
        Check.thrown("kind first", IllegalArgumentException.class, () -> x.find(6, WHITE, 1, 0));
        Check.thrown("side first", IllegalArgumentException.class, () -> x.find(ROOK, 2, 1, -1));
        // The first of all bishops' positions: kings on a1 and c1, the bishop on b1.
        Check.due("first drawn", 0 + 64 * 1 + 4096 * 2, () -> x.find(BISHOP, BLACK, -1, 0));
        EndTables three = new EndTables(3, 3);
        Check.due("3x3", 69760, () -> three.find(ROOK, WHITE, 3, 1));
        Check.due("3x3", 41024, () -> three.find(QUEEN, BLACK, 2, 0));
        Check.thrown("3x3", index, () -> three.find(QUEEN, WHITE, 3, 1));
    }

    private static void promise6() {
        EndTables x = new EndTables(8, 8);
        int[] want = {0, 56, -1, -1, 32, 20};
        for (int kind = PAWN; kind <= QUEEN; kind++) {
            int k = kind;
            Check.due("longest " + kind, want[kind], () -> x.longest(k));
        }
        for (int wrong : new int[] {0, -1, 6, Integer.MIN_VALUE, Integer.MAX_VALUE}) {
            Check.thrown("longest " + wrong, IllegalArgumentException.class, () -> x.longest(wrong));
        }
        Check.due("3x5", 16, () -> new EndTables(3, 5).longest(PAWN));
        Check.due("5x3", 15, () -> new EndTables(5, 3).longest(PAWN));
        Check.due("3x3", 2, () -> new EndTables(3, 3).longest(QUEEN));
    }

    private static void promise7() {
        EndTables x = new EndTables(8, 8);
        Check.yes("set", x.set(QUEEN, at("f6"), at("g1"), at("h8"), WHITE));
        stands(x, QUEEN, at("f6"), at("g1"), at("h8"), WHITE);
        Check.yes("set another", x.set(PAWN, at("a1"), at("b2"), at("h8"), BLACK));
        stands(x, PAWN, at("a1"), at("b2"), at("h8"), BLACK);
        Check.yes("no man", x.set(0, at("c3"), 0, at("h8"), BLACK));
        stands(x, 0, at("c3"), 0, at("h8"), BLACK);
        // The man's 0 is no square when there is none.
        Check.yes("no man, king on a1", x.set(0, 0, 0, 2, WHITE));
        stands(x, 0, 0, 0, 2, WHITE);
        Check.yes("no man, black's king on a1", x.set(0, 2, 0, 0, WHITE));
        stands(x, 0, 2, 0, 0, WHITE);
    }

    private static void promise7Refused() {
        EndTables x = board(ROOK, "c3", "d4", "h8", BLACK);
        for (int man : new int[] {1, 30, 64, -1, Integer.MIN_VALUE}) {
            Check.yes("no man, but its square", !x.set(0, 20, man, 40, WHITE));
        }
        Check.yes("kings next to each other", !x.set(0, 20, 0, 21, WHITE));
        Check.yes("kings on one square", !x.set(0, 20, 0, 20, WHITE));
        Check.yes("side", !x.set(0, 20, 0, 40, 2));
        Check.yes("off the board", !x.set(0, 64, 0, 40, WHITE));
        Check.yes("off the board", !x.set(0, 20, 0, -1, WHITE));
        Check.yes("in check", !x.set(ROOK, 0, at("b8"), at("h8"), WHITE));
        Check.yes("kind", !x.set(6, 0, 9, 63, WHITE));
        stands(x, ROOK, at("c3"), at("d4"), at("h8"), BLACK);
        Check.due("moves as before", 3, x::moves);
    }

    private static void promise8() {
        EndTables x = board(ROOK, "c3", "h1", "h8", BLACK);
        stands(x, ROOK, at("c3"), at("h1"), at("h8"), BLACK);
        Check.due("in check", 1, () -> x.about(5));
        Check.due("barred", 0, () -> board(ROOK, "h4", "h1", "h8", BLACK).about(5));
        Check.due("white to move", 0, () -> board(ROOK, "h4", "a1", "b8", WHITE).about(5));
        Check.due("no man", 0, () -> board(0, "h4", "", "h8", BLACK).about(5));
        Check.due("by a pawn", 1, () -> board(PAWN, "h4", "c4", "b5", BLACK).about(5));
        Check.due("not by a pawn", 0, () -> board(PAWN, "h4", "c4", "b3", BLACK).about(5));
        Check.due("not round the edge", 0, () -> board(PAWN, "d1", "h4", "a6", BLACK).about(5));
        Check.due("by a knight", 1, () -> board(KNIGHT, "h4", "c4", "a5", BLACK).about(5));
        Check.due("by a bishop", 1, () -> board(BISHOP, "h4", "a1", "h8", BLACK).about(5));
        Check.due("by a queen", 1, () -> board(QUEEN, "h4", "a1", "h8", BLACK).about(5));
        for (int what : WILD) {
            Check.thrown("about " + what, IndexOutOfBoundsException.class, () -> x.about(what));
        }
    }

    private static void promise9() {
        Check.due("mate", 0, board(QUEEN, "f6", "g7", "h8", BLACK)::left);
        Check.due("mate in one", 1, board(QUEEN, "f6", "g1", "h8", WHITE)::left);
        Check.due("stalemate", -1, board(QUEEN, "a1", "f7", "h8", BLACK)::left);
        Check.due("no man", -1, board(0, "a1", "", "h8", BLACK)::left);
        Check.due("bishop", -1, board(BISHOP, "a1", "f7", "h8", BLACK)::left);
        EndTables x = board(PAWN, "g6", "a7", "g8", WHITE);
        Check.due("pawn", 1, x::left);
        x.set(PAWN, at("b6"), at("a6"), at("a8"), WHITE);
        Check.due("pawn at the edge", -1, x::left);
    }

    private static void promise10() {
        Check.due("mate", 0, board(QUEEN, "f6", "g7", "h8", BLACK)::moves);
        Check.due("stalemate", 0, board(QUEEN, "a1", "f7", "h8", BLACK)::moves);
        Check.due("king alone", 8, board(0, "d4", "", "h8", WHITE)::moves);
        Check.due("king alone in the corner", 3, board(0, "d4", "", "h8", BLACK)::moves);
        Check.due("queen in the middle and king", 27 - 1 + 3, board(QUEEN, "a1", "d4", "h2", WHITE)::moves);
        Check.due("knight and king", 8 + 3, board(KNIGHT, "a1", "d4", "h8", WHITE)::moves);
        Check.due("takes the man", 1, board(QUEEN, "a1", "g7", "h8", BLACK)::moves);
        Check.due("does not take a guarded man", 0, board(QUEEN, "f6", "g7", "h8", BLACK)::moves);
        // On a board of 3 files white's king has no move either.
        EndTables small = new EndTables(3, 3);
        Check.yes("set", small.set(0, 0, 0, 2, WHITE));
        Check.due("3x3", 1, small::moves);
    }

    private static void promise11() {
        // The king's square is the lesser one, so its moves come first; not to its man's square.
        order(board(KNIGHT, "a1", "b2", "h8", WHITE), move("a1", "b1"), move("a1", "a2"), move("b2", "d1"),
            move("b2", "d3"), move("b2", "a4"), move("b2", "c4"));
        order(board(KNIGHT, "h8", "b1", "f6", WHITE), move("b1", "d2"), move("b1", "a3"), move("b1", "c3"),
            move("h8", "h7"), move("h8", "g8"));
        // Each king bars a line; behind black's own square the line goes on for it.
        order(board(ROOK, "a3", "a1", "e1", BLACK), move("e1", "d2"), move("e1", "e2"), move("e1", "f2"));
        order(board(BISHOP, "c3", "a1", "e5", WHITE), move("a1", "b2"), move("c3", "b2"), move("c3", "c2"),
            move("c3", "d2"), move("c3", "b3"), move("c3", "d3"), move("c3", "b4"), move("c3", "c4"));
        order(board(QUEEN, "a1", "g7", "h8", BLACK), move("h8", "g7"));
        order(board(BISHOP, "f1", "g7", "h8", BLACK), move("h8", "g7"), move("h8", "h7"), move("h8", "g8"));
        order(board(BISHOP, "f6", "g7", "h8", BLACK), move("h8", "h7"), move("h8", "g8"));
    }

    private static void promise11Pawns() {
        // One up and two up from rank 1.
        order(board(PAWN, "a8", "c2", "h8", WHITE), move("c2", "c3"), move("c2", "c4"), move("a8", "a7"),
            move("a8", "b7"), move("a8", "b8"));
        order(board(PAWN, "a8", "c3", "h8", WHITE), move("c3", "c4"), move("a8", "a7"), move("a8", "b7"),
            move("a8", "b8"));
        // Barred on the first square, or on the second.
        order(board(PAWN, "a8", "c2", "c3", WHITE), move("a8", "a7"), move("a8", "b7"), move("a8", "b8"));
        order(board(PAWN, "a8", "c2", "c4", WHITE), move("c2", "c3"), move("a8", "a7"), move("a8", "b7"),
            move("a8", "b8"));
        // What it becomes, in order.
        order(board(PAWN, "a1", "c7", "h8", WHITE), move("a1", "b1"), move("a1", "a2"), move("a1", "b2"),
            move("c7", "c8") + 4096 * 2, move("c7", "c8") + 4096 * 3, move("c7", "c8") + 4096 * 4,
            move("c7", "c8") + 4096 * 5);
        order(board(PAWN, "a1", "c7", "c8", WHITE), move("a1", "b1"), move("a1", "a2"), move("a1", "b2"));
        EndTables four = new EndTables(3, 4);
        four.set(PAWN, 0, 10, 26, WHITE);
        order(four, 0 + 64 * 1, 0 + 64 * 8, 0 + 64 * 9, 10 + 64 * 18);
        EndTables five = new EndTables(3, 5);
        five.set(PAWN, 0, 10, 32, WHITE);
        order(five, 0 + 64 * 1, 0 + 64 * 8, 0 + 64 * 9, 10 + 64 * 18, 10 + 64 * 26);
        EndTables three = new EndTables(3, 3);
        three.set(PAWN, 0, 10, 16, WHITE);
        order(three, 0 + 64 * 1, 10 + 64 * 18 + 4096 * 2, 10 + 64 * 18 + 4096 * 3, 10 + 64 * 18 + 4096 * 4,
            10 + 64 * 18 + 4096 * 5);
    }

    private static void promise12() {
        Check.thrown("mate", IllegalStateException.class, board(QUEEN, "f6", "g7", "h8", BLACK)::best);
        Check.thrown("stalemate", IllegalStateException.class, board(QUEEN, "a1", "f7", "h8", BLACK)::best);
        // Two mates, the first in order; from f6 the king's own moves do not mate.
        Check.due("mate in one", move("g1", "g7"), board(QUEEN, "f6", "g1", "h8", WHITE)::best);
        Check.due("mate in one", move("a1", "a8"), board(ROOK, "g6", "a1", "g8", WHITE)::best);
        // A rook mates as well and comes before the queen.
        Check.due("becomes a rook", move("a7", "a8") + 4096 * ROOK, board(PAWN, "g6", "a7", "g8", WHITE)::best);
        // No move of white leads to a distance: the first one.
        Check.due("drawn, white", move("a1", "b1"), board(BISHOP, "a1", "f7", "h8", WHITE)::best);
        Check.due("no man", move("d4", "c3"), board(0, "d4", "", "h8", WHITE)::best);
        // Black goes where it is drawn: it takes, though that is not its first move.
        Check.due("takes", move("d4", "e5"), board(QUEEN, "a1", "e5", "d4", BLACK)::best);
        Check.due("no man, black", move("h8", "g7"), board(0, "d4", "", "h8", BLACK)::best);
        EndTables x = new EndTables(5, 3);
        x.set(QUEEN, 2, 0, 4, WHITE);
        Check.due("5x3", 1152, x::best);
        x.set(QUEEN, 2, 3, 0, WHITE);
        Check.due("5x3", 642, x::best);
    }

    private static void promise13() {
        EndTables x = board(QUEEN, "f6", "g1", "h8", WHITE);
        Check.due("play", 0, () -> x.play(move("g1", "g7")));
        stands(x, QUEEN, at("f6"), at("g7"), at("h8"), BLACK);
        Check.thrown("no move is left", IllegalArgumentException.class, () -> x.play(move("h8", "g8")));
        EndTables y = board(QUEEN, "a1", "g7", "h8", BLACK);
        Check.due("takes", -1, () -> y.play(move("h8", "g7")));
        stands(y, 0, at("a1"), 0, at("g7"), WHITE);
        Check.due("goes on", -1, () -> y.play(move("a1", "b2")));
        stands(y, 0, at("b2"), 0, at("g7"), BLACK);
        // A man on a1 is taken, too, and black's king may go to a1 when there is none.
        EndTables z = board(ROOK, "d4", "a1", "b2", BLACK);
        Check.due("takes on a1", -1, () -> z.play(move("b2", "a1")));
        stands(z, 0, at("d4"), 0, at("a1"), WHITE);
        for (int m = KNIGHT; m <= QUEEN; m++) {
            int becomes = m;
            EndTables p = board(PAWN, "g6", "a7", "g8", WHITE);
            Check.due("becomes " + m, m < ROOK ? -1 : 0, () -> p.play(move("a7", "a8") + 4096 * becomes));
            stands(p, m, at("g6"), at("a8"), at("g8"), BLACK);
        }
        EndTables q = board(PAWN, "a8", "c2", "h8", WHITE);
        q.play(move("c2", "c4"));
        stands(q, PAWN, at("a8"), at("c4"), at("h8"), BLACK);
        EndTables k = board(PAWN, "e6", "e5", "e8", WHITE);
        int left = k.left();
        Check.due("the best move counts one down", left - 1, () -> k.play(k.best()));
    }

    private static void promise13Refused() {
        EndTables x = board(PAWN, "a1", "c7", "h8", WHITE);
        int[] wrong = {0, move("c7", "c8"), move("c7", "c8") + 4096, move("c7", "c8") + 4096 * 6,
            move("c7", "b8") + 4096 * 5, move("a1", "a3"), move("a1", "a1"), move("h8", "h7"),
            move("a1", "b1") + 4096, move("a1", "b1") + 4096 * 5, -move("a1", "b1"), move("a1", "b1") + 4096 * 8,
            move("a1", "b1") + (1 << 31), Integer.MIN_VALUE, Integer.MAX_VALUE};
        for (int move : wrong) {
            Check.thrown("play " + move, IllegalArgumentException.class, () -> x.play(move));
        }
        stands(x, PAWN, at("a1"), at("c7"), at("h8"), WHITE);
        Check.due("moves", 7, x::moves);
    }

    private static void promise14() {
        EndTables x = board(ROOK, "a1", "b2", "e5", WHITE);
        int left = x.left();
        Check.yes("a long way", left > 20 && left % 2 == 1);
        Check.due("none", 0, () -> x.run(0));
        Check.due("as before", left, x::left);
        Check.due("some", 5, () -> x.run(5));
        Check.due("counted down", left - 5, x::left);
        Check.due("to the end", left - 5, () -> x.run(100));
        Check.due("mate", 0, x::left);
        Check.due("check", 1, () -> x.about(5));
        Check.due("at the end", 0, () -> x.run(100));
        Check.due("drawn goes on", 100, () -> board(0, "a1", "", "h8", WHITE).run(100));
        Check.due("stalemate", 0, () -> board(QUEEN, "a1", "f7", "h8", BLACK).run(1));
        EndTables p = board(PAWN, "e6", "e5", "e8", BLACK);
        int far = p.left();
        Check.due("a pawn to the end", far, () -> p.run(100));
        Check.yes("became something", p.about(0) >= ROOK);
        for (int n : new int[] {-1, 101, Integer.MIN_VALUE, Integer.MAX_VALUE}) {
            Check.thrown("run " + n, IllegalArgumentException.class, () -> x.run(n));
        }
    }

    private static void throwingChangesNothing() {
        EndTables x = board(PAWN, "a1", "c7", "h8", WHITE);
        for (int wild : WILD) {
            Check.thrown("about", IndexOutOfBoundsException.class, () -> x.about(wild));
            Check.thrown("play", IllegalArgumentException.class, () -> x.play(wild == 64 ? 63 : wild));
            Check.thrown("move", IndexOutOfBoundsException.class, () -> x.move(wild == 6 ? 7 : wild));
            Check.thrown("run", IllegalArgumentException.class, () -> x.run(wild >= 0 && wild <= 100 ? 101 : wild));
            Check.thrown("distance", IllegalArgumentException.class, () -> x.distance(wild, 0, 9, 63, WHITE));
            Check.thrown("count", IllegalArgumentException.class, () -> x.count(wild, 0, 1));
            Check.thrown("find", IllegalArgumentException.class, () -> x.find(1, wild, 0, 1));
        }
        stands(x, PAWN, at("a1"), at("c7"), at("h8"), WHITE);
        // Asking for other positions leaves the one that is set, too.
        distance(0, x, QUEEN, "f6", "g7", "h8", BLACK);
        x.find(ROOK, BLACK, 0, 3);
        x.best();
        stands(x, PAWN, at("a1"), at("c7"), at("h8"), WHITE);
        Check.due("moves", 7, x::moves);
        Check.due("move 6", move("c7", "c8") + 4096 * QUEEN, () -> x.move(6));
    }

    /** Arguments of all sizes, drawn by a fixed rule: nothing but the document's exceptions comes. */
    private static void wildCalls() {
        int seed = 12345;
        for (int round = 0; round < 40; round++) {
            EndTables x = new EndTables(round % 7 + 2, round % 5 + 3);
            int[] v = new int[5];
            for (int i = 0; i < 512; i++) {
                for (int j = 0; j < v.length; j++) {
                    seed = seed * 1103515245 + 12345;
                    int shift = seed >>> 27;
                    seed = seed * 1103515245 + 12345;
                    v[j] = (seed >> 16 & 7) == 0 ? seed >> shift : (seed >>> 20 & 63) % (j == 0 || j == 4 ? 6 : 64);
                }
                wildCall(x, i % 13, v[0], v[1], v[2], v[3], v[4]);
            }
        }
    }

    private static void wildCall(EndTables x, int which, int a, int b, int c, int d, int e) {
        String got = "";
        try {
            switch (which) {
                case 0: x.distance(a, b, c, d, e & 1); break;
                case 1: x.count(a, b, c); break;
                case 2: x.find(a, b & 1, c, d); break;
                case 3: x.longest(a); break;
                case 4: x.about(a); break;
                case 5: x.left(); break;
                case 6: x.moves(); break;
                case 7: x.move(a); break;
                case 8: x.best(); break;
                case 9: x.play(b); break;
                case 10: x.run(c); break;
                default: x.set(a, b, c, d, e & 1); break;
            }
        } catch (IllegalArgumentException | IllegalStateException thrown) {
            got = "";
        } catch (IndexOutOfBoundsException thrown) {
            boolean own = thrown.getClass() == IndexOutOfBoundsException.class && thrown.getStackTrace().length > 0
                && thrown.getStackTrace()[0].getClassName().equals("EndTables");
            got = own ? "" : "threw " + thrown;
        } catch (RuntimeException thrown) {
            got = "threw " + thrown;
        }
        if (!got.isEmpty()) {
            Check.fail("call " + which + "(" + a + ", " + b + ", " + c + ", " + d + ", " + e + ") " + got);
        }
    }
}

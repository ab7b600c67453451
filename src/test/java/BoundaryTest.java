import java.util.ArrayList;
import java.util.List;

/**
 * The document's sentences on a new object, on the position that is set and on what is played, and
 * on calls that throw: each one that names an edge has a test of its own, under its words.
 */
public final class BoundaryTest extends Boards {
    private static final int[] TOO_SMALL = {2, 1, 0, -1, -8, Integer.MIN_VALUE};
    private static final int[] TOO_LARGE = {9, 10, 11, 16, 64, 1 << 16 | 5, Integer.MAX_VALUE};

    private BoundaryTest() {
    }

    public static void main(String[] args) {
        calls512();
        objectsApart();
        throwingChangesNothing();
        throwingWithoutPosition();
        firstNamed();
        promise1TooSmall();
        promise1TooLarge();
        promise1Kept();
        promise1NoPosition();
        promise2();
        promise7();
        promise7Refused();
        promise8();
        promise8NoMan();
        promise8Throws();
        promise10();
        promise10None();
        promise11();
        promise11Throws();
        promise13();
        promise13Throws();
        promise14();
        promise14UntilNone();
        promise14Throws();
        Check.end("BoundaryTest");
    }

    /** All that is told of the position that is set; DRAWN stands for an exception. */
    private static List<Integer> told(EndTables x) {
        List<Integer> all = new ArrayList<>();
        for (int what = 0; what < 6; what++) {
            all.add(x.about(what));
        }
        all.add(x.left());
        all.add(x.moves());
        for (int k = 0; k < x.moves(); k++) {
            all.add(x.move(k));
        }
        all.add(x.moves() == 0 ? DRAWN : x.best());
        return all;
    }

    private static void calls512() {
        Check.sentence("An object is used for at most 512 calls after it has been made");
        EndTables x = board(PAWN, "e6", "e5", "e8", WHITE);
        int left = new EndTables(8, 8).distance(PAWN, at("e6"), at("e5"), at("e8"), WHITE);
        // With its set and with these 511 it is 512.
        for (int i = 2; i <= 508; i++) {
            Check.due("call " + i, left, x::left);
        }
        Check.due("call 509", 100, () -> x.set(NOBODY, 0, 0, 63, WHITE) ? x.run(100) : 0);
        put(x, PAWN, "e6", "e5", "e8", WHITE);
        Check.due("call 512", left, () -> x.run(100));
        EndTables y = new EndTables(8, 8);
        for (int i = 0; i < 512; i++) {
            int black = 16 + i % 48;
            set(apart(black, 9) > 1, y, NOBODY, 9, 0, black, WHITE);
        }
        EndTables z = board(ROOK, "a1", "b2", "e5", WHITE);
        for (int i = 2; i < 512; i++) {
            Check.thrown("call " + i, IllegalArgumentException.class, () -> z.play(0));
        }
        Check.due("call 512", z.distance(ROOK, 0, 9, 36, WHITE), () -> z.distance(ROOK, 0, 9, 36, WHITE));
    }

    private static void objectsApart() {
        Check.sentence("A new object: A board");
        EndTables large = board(ROOK, "c3", "h1", "b1", BLACK);
        List<Integer> before = told(large);
        EndTables small = new EndTables(3, 3);
        nothingSet(small);
        Check.due("on 3x3", 2, () -> small.longest(QUEEN));
        Check.due("on 8x8", 20, () -> large.longest(QUEEN));
        set(true, small, QUEEN, 0, 9, 18, BLACK);
        small.run(100);
        Check.yes("as before", before.equals(told(large)));
    }

    private static void throwingChangesNothing() {
        Check.sentence("A call that throws changes nothing");
        refused(board(PAWN, "a1", "c7", "h8", WHITE));
        refused(board(PAWN, "a8", "a7", "c7", WHITE));
        refused(board(ROOK, "c3", "h1", "b1", BLACK));
        refused(board(QUEEN, "f6", "g7", "h8", BLACK));
        refused(board(KNIGHT, "c3", "d3", "h8", WHITE));
        refused(board(NOBODY, "c3", "-", "a1", BLACK));
        refused(board(NOBODY, "c3", "-", "h8", WHITE));
    }

    private static void refused(EndTables x) {
        List<Integer> before = told(x);
        Class<IllegalArgumentException> argument = IllegalArgumentException.class;
        Class<IndexOutOfBoundsException> index = IndexOutOfBoundsException.class;
        int moves = x.moves();
        Check.thrown("distance", argument, () -> x.distance(NOBODY, 0, 0, 63, WHITE));
        Check.thrown("distance", argument, () -> x.distance(QUEEN, 9, 10, 12, WHITE));
        Check.thrown("distance", argument, () -> x.distance(QUEEN, 64, -1, 99, BLACK));
        Check.thrown("count", argument, () -> x.count(6, BLACK, 0));
        Check.thrown("count", argument, () -> x.count(QUEEN, 2, 0));
        Check.thrown("find", argument, () -> x.find(0, BLACK, 0, 0));
        Check.thrown("find", index, () -> x.find(QUEEN, BLACK, 0, -1));
        Check.thrown("find", index, () -> x.find(PAWN, BLACK, 0, 1 << 20));
        Check.thrown("longest", argument, () -> x.longest(0));
        Check.thrown("about", index, () -> x.about(6));
        Check.thrown("about", index, () -> x.about(-1));
        Check.thrown("move", index, () -> x.move(moves));
        Check.thrown("move", index, () -> x.move(-1));
        Check.thrown("play", argument, () -> x.play(0));
        Check.thrown("play", argument, () -> x.play(-1));
        Check.thrown("run", argument, () -> x.run(-1));
        Check.thrown("run", argument, () -> x.run(101));
        if (moves == 0) {
            Check.thrown("best", IllegalStateException.class, x::best);
        }
        Check.yes("as before: " + before, before.equals(told(x)));
    }

    private static void throwingWithoutPosition() {
        Check.sentence("A call that throws changes nothing: none is set");
        EndTables x = new EndTables(5, 6);
        for (int round = 0; round < 2; round++) {
            nothingSet(x);
            Check.thrown("distance", IllegalArgumentException.class, () -> x.distance(QUEEN, 0, 0, 20, WHITE));
            Check.thrown("distance", IllegalArgumentException.class, () -> x.distance(NOBODY, 0, 0, 20, WHITE));
            Check.thrown("find", IndexOutOfBoundsException.class, () -> x.find(QUEEN, BLACK, 0, -1));
            // Calls that only tell set none, either.
            Check.yes("told", x.distance(QUEEN, 0, 3, 20, BLACK) > 0 && x.longest(PAWN) > 0
                && x.count(ROOK, BLACK, 0) > 0 && x.find(ROOK, BLACK, 0, 0) > 0 && x.size(true) == 6);
        }
    }

    private static void firstNamed() {
        Check.sentence("where several exceptions that a call names fit, it is the one that it names first");
        Class<IllegalStateException> state = IllegalStateException.class;
        EndTables x = new EndTables(8, 8);
        for (int wild : WILD) {
            Check.thrown("about", state, () -> x.about(wild));
            Check.thrown("move", state, () -> x.move(wild));
            Check.thrown("play", state, () -> x.play(wild));
            Check.thrown("run", state, () -> x.run(wild));
            Check.thrown("find", IllegalArgumentException.class, () -> x.find(wild, WHITE, 1, -1));
            Check.thrown("find", IllegalArgumentException.class, () -> x.find(QUEEN, wild, 1, Integer.MAX_VALUE));
        }
        Check.thrown("run", state, () -> x.run(101));
        Check.thrown("find", IllegalArgumentException.class, () -> x.find(NOBODY, 2, -2, -1));
    }

    private static void promise1TooSmall() {
        Check.sentence("files or ranks that are not 3 .. 8 are 8: too small");
        for (int wrong : TOO_SMALL) {
            corrected(wrong);
        }
    }

    private static void promise1TooLarge() {
        Check.sentence("files or ranks that are not 3 .. 8 are 8: too large");
        for (int wrong : TOO_LARGE) {
            corrected(wrong);
        }
    }

    /** Each by itself, and both. */
    private static void corrected(int wrong) {
        sized(new EndTables(wrong, 3), 8, 3);
        sized(new EndTables(wrong, 8), 8, 8);
        sized(new EndTables(5, wrong), 5, 8);
        sized(new EndTables(3, wrong), 3, 8);
        sized(new EndTables(wrong, wrong), 8, 8);
    }

    private static void sized(EndTables x, int files, int ranks) {
        Check.due("files", files, () -> x.size(false));
        Check.due("ranks", ranks, () -> x.size(true));
        int last = files - 1 + 8 * (ranks - 1);
        set(true, x, NOBODY, 0, 0, last, BLACK);
        Check.due("in the corner", 3, x::moves);
        set(false, x, NOBODY, 0, 0, last + 1, BLACK);
        set(false, x, NOBODY, 0, 0, last + 8, BLACK);
        stands(x, NOBODY, 0, 0, last, BLACK);
    }

    private static void promise1Kept() {
        Check.sentence("files or ranks that are 3 .. 8");
        for (int files = 3; files <= 8; files++) {
            for (int ranks = 3; ranks <= 8; ranks++) {
                EndTables x = new EndTables(files, ranks);
                int f = files;
                int r = ranks;
                Check.due("files", f, () -> x.size(false));
                Check.due("ranks", r, () -> x.size(true));
                set(true, x, ROOK, 0, 1, f - 1 + 8 * (r - 1), BLACK);
                set(f == 8, x, ROOK, 0, f, f - 1 + 8 * (r - 1), BLACK);
                set(false, x, ROOK, 0, 8 * r, f - 1 + 8 * (r - 1), BLACK);
            }
        }
    }

    private static void promise1NoPosition() {
        Check.sentence("No position is set.");
        nothingSet(new EndTables(8, 8));
        nothingSet(new EndTables(3, 3));
        nothingSet(new EndTables(0, 9));
    }

    private static void promise2() {
        Check.sentence("How many files (or ranks) the board has.");
        EndTables x = new EndTables(4, 7);
        Check.due("files", 4, () -> x.size(false));
        Check.due("ranks", 7, () -> x.size(true));
        set(true, x, NOBODY, 0, 0, 3 + 8 * 6, WHITE);
        x.run(7);
        Check.due("files", 4, () -> x.size(false));
        Check.due("ranks", 7, () -> x.size(true));
    }

    private static void promise7() {
        Check.sentence("A position is set: whether it is one (kind 0 .. 5).");
        EndTables x = new EndTables(8, 8);
        for (int kind = NOBODY; kind <= QUEEN; kind++) {
            for (int side = WHITE; side <= BLACK; side++) {
                put(x, kind, "b3", "d5", "h6", side);
                stands(x, kind, at("b3"), kind == NOBODY ? 0 : at("d5"), at("h6"), side);
            }
        }
        // Another follows it, and nothing of the one before is left.
        put(x, QUEEN, "f6", "g7", "h8", BLACK);
        Check.due("no moves", 0, x::moves);
        put(x, NOBODY, "a1", "-", "h8", BLACK);
        order(x, move("h8", "g7"), move("h8", "h7"), move("h8", "g8"));
    }

    private static void promise7Refused() {
        Check.sentence("whether it is one: it is none, and what was set stays");
        EndTables x = board(PAWN, "a1", "c7", "h8", WHITE);
        List<Integer> before = told(x);
        for (int wild : WILD) {
            set(false, x, wild, at("b3"), at("d5"), at("h6"), WHITE);
            set(false, x, QUEEN, at("b3"), at("d5"), at("h6"), wild);
            set(false, x, QUEEN, wild == 6 ? 8 : wild, at("a2"), at("b1"), WHITE);
            set(false, x, NOBODY, at("b3"), wild, at("h6"), WHITE);
            set(false, x, QUEEN, at("b3"), at("d5"), wild == 6 ? at("b4") : wild, BLACK);
        }
        set(false, x, QUEEN, at("b3"), at("b3"), at("h6"), WHITE);
        set(false, x, QUEEN, at("b3"), at("d6"), at("h6"), WHITE);
        set(false, x, PAWN, at("b3"), at("d8"), at("h6"), WHITE);
        Check.yes("as before", before.equals(told(x)));
        EndTables y = new EndTables(8, 8);
        set(false, y, NOBODY, 0, 0, 1, WHITE);
        nothingSet(y);
    }

    private static void promise8() {
        Check.sentence("0 its kind, 1 the white king's square, 2 the man's, 3 the black king's, 4 the side to move, "
            + "5: 1 if black is in check, else 0");
        EndTables x = board(ROOK, "c3", "h1", "h8", BLACK);
        stands(x, ROOK, at("c3"), at("h1"), at("h8"), BLACK);
        Check.due("check", 1, () -> x.about(5));
        put(x, PAWN, "a1", "h7", "g8", BLACK);
        stands(x, PAWN, at("a1"), at("h7"), at("g8"), BLACK);
        Check.due("check", 1, () -> x.about(5));
        put(x, PAWN, "a1", "h7", "h8", WHITE);
        stands(x, PAWN, at("a1"), at("h7"), at("h8"), WHITE);
        Check.due("no check", 0, () -> x.about(5));
        put(x, QUEEN, "h8", "a1", "f8", WHITE);
        stands(x, QUEEN, at("h8"), 0, at("f8"), WHITE);
        x.play(move("a1", "f1"));
        stands(x, QUEEN, at("h8"), at("f1"), at("f8"), BLACK);
        Check.due("check", 1, () -> x.about(5));
        x.play(move("f8", "e7"));
        stands(x, QUEEN, at("h8"), at("f1"), at("e7"), WHITE);
        Check.due("check no more", 0, () -> x.about(5));
    }

    private static void promise8NoMan() {
        Check.sentence("2 the man's (0, and nothing else, is told when there is none)");
        EndTables x = board(QUEEN, "a1", "g7", "h8", BLACK);
        Check.due("before", at("g7"), () -> x.about(2));
        x.play(move("h8", "g7"));
        stands(x, NOBODY, at("a1"), 0, at("g7"), WHITE);
        Check.due("no check", 0, () -> x.about(5));
        x.play(move("a1", "b2"));
        stands(x, NOBODY, at("b2"), 0, at("g7"), BLACK);
    }

    private static void promise8Throws() {
        Check.sentence("about: IllegalStateException when none is set; IndexOutOfBoundsException for another what");
        EndTables x = new EndTables(8, 8);
        for (int what = -1; what <= 6; what++) {
            int w = what;
            Check.thrown("none", IllegalStateException.class, () -> x.about(w));
        }
        put(x, ROOK, "c3", "h1", "h8", BLACK);
        for (int wild : WILD) {
            Check.thrown("about " + wild, IndexOutOfBoundsException.class, () -> x.about(wild));
        }
        Check.thrown("about 7", IndexOutOfBoundsException.class, () -> x.about(7));
    }

    private static void promise10() {
        Check.sentence("How many moves it has.");
        Check.due("one", 1, board(NOBODY, "c1", "-", "a1", BLACK)::moves);
        Check.due("king alone", 8, board(NOBODY, "d4", "-", "h8", WHITE)::moves);
        EndTables most = board(QUEEN, "g6", "d4", "b3", WHITE);
        Check.due("a queen's 27 and a king's 8", 35, most::moves);
        Check.due("what the pawn becomes counts", 4 + 3, board(PAWN, "a1", "c7", "h8", WHITE)::moves);
        most.play(move("d4", "d8"));
        Check.due("black's", 8, most::moves);
    }

    private static void promise10None() {
        Check.sentence("moves: IllegalStateException when none is set");
        Check.thrown("none", IllegalStateException.class, () -> new EndTables(8, 8).moves());
        Check.due("mate", 0, board(QUEEN, "f6", "g7", "h8", BLACK)::moves);
        Check.due("no check", 0, board(QUEEN, "a1", "f7", "h8", BLACK)::moves);
        Check.due("white", 0, board(PAWN, "a8", "a7", "c7", WHITE)::moves);
    }

    private static void promise11() {
        Check.sentence("Move k, in order.");
        EndTables most = board(QUEEN, "g6", "d4", "b3", WHITE);
        Check.due("the first", move("d4", "a1"), () -> most.move(0));
        Check.due("the queen's last", move("d4", "h8"), () -> most.move(26));
        Check.due("the king's first", move("g6", "f5"), () -> most.move(27));
        Check.due("the last", move("g6", "h7"), () -> most.move(34));
        Check.thrown("behind the last", IndexOutOfBoundsException.class, () -> most.move(35));
        EndTables x = board(NOBODY, "c1", "-", "a1", BLACK);
        order(x, move("a1", "a2"));
        x.play(move("a1", "a2"));
        order(x, move("c1", "d1"), move("c1", "c2"), move("c1", "d2"));
    }

    private static void promise11Throws() {
        Check.sentence("move: IllegalStateException when none is set; IndexOutOfBoundsException when there is no such "
            + "move");
        Check.thrown("none", IllegalStateException.class, () -> new EndTables(8, 8).move(0));
        order(board(QUEEN, "f6", "g7", "h8", BLACK));
        order(board(PAWN, "a8", "a7", "c7", WHITE));
        EndTables x = board(NOBODY, "d4", "-", "h8", BLACK);
        for (int wild : WILD) {
            Check.thrown("move " + wild, IndexOutOfBoundsException.class, () -> x.move(wild));
        }
        // There were more before: they are no more.
        put(x, QUEEN, "g6", "d4", "b3", WHITE);
        put(x, NOBODY, "d4", "-", "h8", BLACK);
        Check.thrown("move 3", IndexOutOfBoundsException.class, () -> x.move(3));
    }

    private static void promise13() {
        Check.sentence("A move is made; the position behind it is set: its distance, or DRAWN.");
        EndTables x = board(QUEEN, "f6", "g1", "h8", WHITE);
        Check.due("mate", 0, () -> x.play(move("g1", "g7")));
        stands(x, QUEEN, at("f6"), at("g7"), at("h8"), BLACK);
        put(x, QUEEN, "f6", "g1", "h8", WHITE);
        Check.due("no check, and no move", DRAWN, () -> x.play(move("g1", "g6")));
        stands(x, QUEEN, at("f6"), at("g6"), at("h8"), BLACK);
        Check.due("none", 0, x::moves);
        put(x, ROOK, "d4", "a1", "b2", BLACK);
        Check.due("takes on the first square", DRAWN, () -> x.play(move("b2", "a1")));
        stands(x, NOBODY, at("d4"), 0, at("a1"), WHITE);
        put(x, PAWN, "a8", "c2", "h8", WHITE);
        Check.due("two up", x.distance(PAWN, at("a8"), at("c4"), at("h8"), BLACK), () -> x.play(move("c2", "c4")));
        stands(x, PAWN, at("a8"), at("c4"), at("h8"), BLACK);
    }

    private static void promise13Throws() {
        Check.sentence("play: IllegalStateException when none is set; IllegalArgumentException when it is none of its "
            + "moves");
        Class<IllegalArgumentException> argument = IllegalArgumentException.class;
        Check.thrown("none", IllegalStateException.class, () -> new EndTables(8, 8).play(move("a1", "a2")));
        EndTables x = board(PAWN, "a1", "c7", "h8", WHITE);
        int kingUp = move("a1", "a2");
        int pawnUp = move("c7", "c8");
        int[] wrong = {0, kingUp + 1, -kingUp, move("a1", "a1"), move("a1", "c1"), move("h8", "h7"), move("c7", "b8"),
            move("c7", "c6"), pawnUp, pawnUp + 4096, pawnUp + 4096 * 6, kingUp + 4096 * QUEEN, ~kingUp};
        for (int move : wrong) {
            Check.thrown("play " + move, argument, () -> x.play(move));
        }
        for (int digit = 12; digit < 32; digit++) {
            int move = kingUp ^ 1 << digit;
            Check.thrown("play " + move, argument, () -> x.play(move));
        }
        stands(x, PAWN, 0, at("c7"), at("h8"), WHITE);
        for (int move : new int[] {0, move("h8", "g8"), move("h8", "g7"), move("g7", "g8")}) {
            Check.thrown("mated", argument, () -> board(QUEEN, "f6", "g7", "h8", BLACK).play(move));
        }
        Check.thrown("white has none", argument, () -> board(PAWN, "a8", "a7", "c7", WHITE).play(move("a8", "b8")));
    }

    private static void promise14() {
        Check.sentence("Up to n best moves are made: how many were.");
        EndTables x = board(ROOK, "a1", "b2", "e5", WHITE);
        EndTables y = board(ROOK, "a1", "b2", "e5", WHITE);
        List<Integer> before = told(x);
        Check.due("none", 0, () -> x.run(0));
        Check.yes("as before", before.equals(told(x)));
        for (int n = 1; n <= 4; n++) {
            int some = n;
            Check.due("some", n, () -> x.run(some));
            for (int k = 0; k < n; k++) {
                y.play(y.best());
            }
            Check.yes("as with so many best moves", told(y).equals(told(x)));
        }
        Check.due("a hundred", 100, () -> board(NOBODY, "a1", "-", "h8", WHITE).run(100));
        Check.due("but for one", 99, () -> board(NOBODY, "a1", "-", "h8", WHITE).run(99));
        // An even number of moves, so white is to move again.
        EndTables z = board(KNIGHT, "a1", "b2", "h8", WHITE);
        Check.due("a hundred", 100, () -> z.run(100));
        Check.due("white", WHITE, () -> z.about(4));
        EndTables taking = board(QUEEN, "a1", "g7", "h8", BLACK);
        Check.due("one", 1, () -> taking.run(1));
        stands(taking, NOBODY, at("a1"), 0, at("g7"), WHITE);
    }

    private static void promise14UntilNone() {
        Check.sentence("until there are none");
        int[] more = {0, 1, 50};
        for (int n : more) {
            EndTables x = board(PAWN, "e6", "e5", "e8", BLACK);
            int left = x.left();
            Check.due("to mate", left, () -> x.run(left + n));
            Check.yes("mate", x.left() == 0 && x.moves() == 0 && x.about(0) >= ROOK && x.about(5) == 1);
            Check.due("no more", 0, () -> x.run(100));
        }
        EndTables y = board(PAWN, "e6", "e5", "e8", BLACK);
        int left = y.left();
        Check.due("all but one", left - 1, () -> y.run(left - 1));
        Check.due("one is left", 1, y::left);
        // Black's best move leaves white none.
        EndTables z = board(PAWN, "a8", "a7", "d7", BLACK);
        Check.due("white has none", 1, () -> z.run(100));
        stands(z, PAWN, at("a8"), at("a7"), at("c7"), WHITE);
        Check.due("mate", 0, () -> board(QUEEN, "f6", "g7", "h8", BLACK).run(100));
        Check.due("no check", 0, () -> board(QUEEN, "a1", "f7", "h8", BLACK).run(100));
    }

    private static void promise14Throws() {
        Check.sentence("run: IllegalStateException when none is set; IllegalArgumentException when n is not 0 .. 100");
        for (int n : new int[] {0, 1, 100, 101, -1}) {
            Check.thrown("none", IllegalStateException.class, () -> new EndTables(8, 8).run(n));
        }
        EndTables x = board(QUEEN, "f6", "g7", "h8", BLACK);
        EndTables y = board(ROOK, "a1", "b2", "e5", WHITE);
        for (int n : new int[] {-1, -100, 101, 128, 256, 1 << 16, Integer.MIN_VALUE, Integer.MAX_VALUE}) {
            Check.thrown("run " + n, IllegalArgumentException.class, () -> x.run(n));
            Check.thrown("run " + n, IllegalArgumentException.class, () -> y.run(n));
        }
        stands(y, ROOK, at("a1"), at("b2"), at("e5"), WHITE);
        Check.due("run 0", 0, () -> x.run(0));
        Check.due("run 100", 0, () -> x.run(100));
    }
}

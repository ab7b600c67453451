import java.util.ArrayList;
import java.util.HashMap;
import java.util.List;
import java.util.Map;

/**
 * Runs of up to 512 calls of all kinds on one object, wrong calls in between, each held against what
 * a plain model answers: that calls leave alone what is none of their business shows only so. The
 * runs are the same each time. Arguments "FILESxRANKS .." name other boards than the usual ones.
 */
public final class RunsTest extends Boards {
    private static final int CALLS = 512;
    private static final int RUNS = 6;
    private static final int SHORT_RUNS = 100;

    private final Reference ref;
    private final Map<Integer, List<List<Integer>>> lists = new HashMap<>();
    private long seed;
    private EndTables x;
    /** The position that is set: kind, white, man, black, side; null when none is. */
    private int[] now;
    private String at;

    private RunsTest(int files, int ranks) {
        ref = new Reference(files, ranks);
        seed = 64L * files + ranks;
    }

    public static void main(String[] args) {
        String[] boards = args.length > 0 ? args : new String[] {"3x3", "3x4", "4x3", "4x4", "3x6", "6x3", "5x4", "5x5"};
        for (String board : boards) {
            RunsTest test = new RunsTest(board.charAt(0) - '0', board.charAt(2) - '0');
            for (int run = 0; run < RUNS; run++) {
                test.run("run " + run, CALLS);
            }
            // In these few calls go ahead of one: no other has found the distances that it needs.
            for (int run = 0; run < SHORT_RUNS; run++) {
                test.run("short run " + run, 9);
            }
        }
        Check.end("RunsTest");
    }

    private void run(String name, int calls) {
        x = new EndTables(ref.files, ref.ranks);
        now = null;
        for (int call = 0; call < calls; call++) {
            at = ref.files + "x" + ref.ranks + " " + name + " call " + call + ": ";
            call();
        }
    }

    /** One of 0 .. below - 1, by a row of numbers that is the same each time. */
    private int pick(int below) {
        seed = seed * 6364136223846793005L + 1442695040888963407L;
        return (int) ((seed >>> 33) % below);
    }

    /** Now and then a wild number instead. */
    private int orWild(int usual) {
        return pick(40) == 0 ? WILD[pick(WILD.length)] : usual;
    }

    private int kind() {
        return orWild(pick(12) == 0 ? 0 : 1 + pick(5));
    }

    private int side() {
        return orWild(pick(2));
    }

    private int square() {
        return orWild(pick(20) == 0 ? pick(64) : pick(ref.files) + 8 * pick(ref.ranks));
    }

    private int length() {
        return orWild(pick(3) == 0 ? DRAWN : pick(30) - 2);
    }

    private void call() {
        switch (pick(16)) {
            case 0:
                size(pick(2) == 1);
                break;
            case 1:
                distance(kind(), square(), square(), square(), side());
                break;
            case 2:
                count(kind(), side(), length());
                break;
            case 3:
                find(kind(), side(), length());
                break;
            case 4:
                longest(kind());
                break;
            case 5:
                place(kind(), square(), square(), square(), side());
                break;
            case 6:
                // Else too few are set at once, and a position with no man nearly never is.
                place(0, square(), 0, square(), pick(2));
                break;
            case 7:
                if (now != null) {
                    place(now[0], now[1], now[2], now[3], 1 - now[4]);
                }
                break;
            default:
                callOfPosition();
        }
    }

    private void callOfPosition() {
        switch (pick(8)) {
            case 0:
                about(orWild(pick(7)));
                break;
            case 1:
                state("left", () -> ref.distance(now[0], now[1], now[2], now[3], now[4]), x::left);
                break;
            case 2:
                state("moves", () -> listed().size(), x::moves);
                break;
            case 3:
                move(orWild(pick(12)));
                break;
            case 4:
                best();
                break;
            case 5:
                play(orWild(pick(5) == 0 ? square() + 64 * square() : listed().isEmpty() ? 0
                    : listed().get(pick(listed().size()))));
                break;
            case 6:
                steps(orWild(pick(4)));
                break;
            default:
                steps(orWild(pick(30)));
        }
    }

    private void size(boolean ranks) {
        Check.due(at + "size(" + ranks + ")", ranks ? ref.ranks : ref.files, () -> x.size(ranks));
    }

    private void distance(int kind, int white, int man, int black, int side) {
        String call = at + "distance" + call(kind, white, man, black, side);
        if (kind == 0 || !ref.isPosition(kind, white, man, black, side)) {
            Check.thrown(call, IllegalArgumentException.class, () -> x.distance(kind, white, man, black, side));
            return;
        }
        Check.due(call, ref.distance(kind, white, man, black, side), () -> x.distance(kind, white, man, black, side));
    }

    private static boolean isListed(int kind, int side) {
        return kind >= 1 && kind <= 5 && side >= 0 && side <= 1;
    }

    /** All positions of a kind and a side: those of distance n are list n + 1. */
    private List<List<Integer>> all(int kind, int side) {
        return lists.computeIfAbsent(2 * kind + side, key -> {
            List<List<Integer>> found = new ArrayList<>();
            for (int n = -1; n <= 64; n++) {
                found.add(new ArrayList<>());
            }
            for (int i = 0; i < 64 * 64 * 64; i++) {
                if (ref.isPosition(kind, i / 4096, i / 64 % 64, i % 64, side)) {
                    int d = ref.distance(kind, i / 4096, i / 64 % 64, i % 64, side);
                    found.get(d + 1).add(i / 4096 + 64 * (i / 64 % 64) + 4096 * (i % 64));
                }
            }
            return found;
        });
    }

    private List<Integer> all(int kind, int side, int n) {
        return n >= -1 && n <= 64 ? all(kind, side).get(n + 1) : List.of();
    }

    private void count(int kind, int side, int n) {
        String call = at + "count(" + kind + ", " + side + ", " + n + ")";
        if (!isListed(kind, side)) {
            Check.thrown(call, IllegalArgumentException.class, () -> x.count(kind, side, n));
            return;
        }
        Check.due(call, all(kind, side, n).size(), () -> x.count(kind, side, n));
    }

    private void find(int kind, int side, int n) {
        if (!isListed(kind, side)) {
            int i = pick(3);
            Check.thrown(at + "find(" + kind + ", " + side + ", " + n + ", " + i + ")", IllegalArgumentException.class,
                () -> x.find(kind, side, n, i));
            return;
        }
        List<Integer> list = all(kind, side, n);
        int i = orWild(pick(6) == 0 ? list.size() : pick(list.size() + 1));
        String call = at + "find(" + kind + ", " + side + ", " + n + ", " + i + ")";
        if (i < 0 || i >= list.size()) {
            Check.thrown(call, IndexOutOfBoundsException.class, () -> x.find(kind, side, n, i));
            return;
        }
        Check.due(call, list.get(i), () -> x.find(kind, side, n, i));
    }

    private void longest(int kind) {
        if (!isListed(kind, WHITE)) {
            Check.thrown(at + "longest(" + kind + ")", IllegalArgumentException.class, () -> x.longest(kind));
            return;
        }
        int most = -1;
        for (int n = 0; n <= 64; n++) {
            boolean some = !all(kind, WHITE, n).isEmpty() || !all(kind, BLACK, n).isEmpty();
            most = some ? n : most;
        }
        Check.due(at + "longest(" + kind + ")", most, () -> x.longest(kind));
    }

    private void place(int kind, int white, int man, int black, int side) {
        boolean stands = ref.isPosition(kind, white, man, black, side);
        Check.due(at + "set" + call(kind, white, man, black, side), stands ? 1 : 0,
            () -> x.set(kind, white, man, black, side) ? 1 : 0);
        if (stands) {
            now = new int[] {kind, white, man, black, side};
        }
    }

    /** A call of the position: throws when none is set, else answers what the model does. */
    private void state(String call, Check.Call want, Check.Call got) {
        if (now == null) {
            Check.thrown(at + call, IllegalStateException.class, got);
            return;
        }
        Check.due(at + call, want.answer(), got);
    }

    private void refused(String call, Class<? extends RuntimeException> why, Check.Call got) {
        Check.thrown(at + call, now == null ? IllegalStateException.class : why, got);
    }

    private List<Integer> listed() {
        return now == null ? List.of() : ref.moves(now[0], now[1], now[2], now[3], now[4]);
    }

    private void about(int what) {
        if (what < 0 || what > 5) {
            refused("about(" + what + ")", IndexOutOfBoundsException.class, () -> x.about(what));
            return;
        }
        state("about(" + what + ")", () -> what < 5 ? now[what]
            : now[0] > 0 && Reference.attacks(now[0], now[2], now[3], now[1]) ? 1 : 0, () -> x.about(what));
    }

    private void move(int k) {
        if (k < 0 || k >= listed().size()) {
            refused("move(" + k + ")", IndexOutOfBoundsException.class, () -> x.move(k));
            return;
        }
        state("move(" + k + ")", () -> listed().get(k), () -> x.move(k));
    }

    private void best() {
        if (listed().isEmpty()) {
            refused("best()", IllegalStateException.class, x::best);
            return;
        }
        state("best()", () -> ref.best(now[0], now[1], now[2], now[3], now[4]), x::best);
    }

    private void play(int move) {
        if (!listed().contains(move)) {
            refused("play(" + move + ")", IllegalArgumentException.class, () -> x.play(move));
            return;
        }
        now = Reference.behind(now[0], now[1], now[2], now[3], now[4], move);
        state("play(" + move + ")", () -> ref.distance(now[0], now[1], now[2], now[3], now[4]), () -> x.play(move));
    }

    private void steps(int n) {
        if (n < 0 || n > 100) {
            refused("run(" + n + ")", IllegalArgumentException.class, () -> x.run(n));
            return;
        }
        int made = 0;
        while (made < n && !listed().isEmpty()) {
            int best = ref.best(now[0], now[1], now[2], now[3], now[4]);
            now = Reference.behind(now[0], now[1], now[2], now[3], now[4], best);
            made++;
        }
        int want = made;
        state("run(" + n + ")", () -> want, () -> x.run(n));
    }
}

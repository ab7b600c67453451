import java.util.ArrayList;
import java.util.List;

/**
 * Holds the class against the reference: on small boards every call for every position, on larger
 * ones all counts and finds and a part of the positions. Arguments "FILESxRANKS .." name other
 * boards than the usual ones.
 */
public final class ReferenceTest {
    private final Reference ref;
    private final Fresh fresh;

    private ReferenceTest(int files, int ranks) {
        ref = new Reference(files, ranks);
        fresh = new Fresh(files, ranks);
    }

    public static void main(String[] args) {
        String[] boards = args.length > 0 ? args
            : new String[] {"3x3", "3x4", "4x3", "4x4", "3x5", "5x3", "5x4", "4x5", "5x5", "3x8", "8x3", "6x5"};
        for (String board : boards) {
            int files = board.charAt(0) - '0';
            int ranks = board.charAt(2) - '0';
            new ReferenceTest(files, ranks).all();
        }
        Check.end("ReferenceTest");
    }

    private void all() {
        // Some 20,000 positions of the board are walked; on the smallest boards it is all of them.
        int cells = ref.files * ref.ranks;
        int every = Math.max(1, cells * cells * cells * 10 / 20000);
        int seen = 0;
        for (int kind = 0; kind <= 5; kind++) {
            for (int side = 0; side < 2; side++) {
                List<List<Integer>> found = new ArrayList<>();
                for (int i = 0; i < 64 * 64 * 64; i++) {
                    int white = i / 4096;
                    int man = i / 64 % 64;
                    int black = i % 64;
                    if (kind == 0 && man > 1) {
                        continue;
                    }
                    boolean stands = ref.isPosition(kind, white, man, black, side);
                    if (stands && kind > 0) {
                        note(found, ref.distance(kind, white, man, black, side), white + 64 * man + 4096 * black);
                    }
                    boolean near = ref.isSquare(white) && ref.isSquare(man) && ref.isSquare(black);
                    if (near && seen++ % every == 0) {
                        position(kind, white, man, black, side, stands);
                    }
                }
                if (kind > 0) {
                    lists(kind, side, found);
                }
            }
        }
        for (int kind = 1; kind <= 5; kind++) {
            longest(kind);
        }
    }

    private static void note(List<List<Integer>> found, int distance, int told) {
        while (found.size() <= distance + 1) {
            found.add(new ArrayList<>());
        }
        found.get(distance + 1).add(told);
    }

    private String name(String call) {
        return ref.files + "x" + ref.ranks + " " + call;
    }

    private void position(int kind, int white, int man, int black, int side, boolean stands) {
        String p = name(kind + "," + white + "," + man + "," + black + "," + side + ": ");
        EndTables e = fresh.use(60);
        Check.due(p + "set", stands ? 1 : 0, () -> e.set(kind, white, man, black, side) ? 1 : 0);
        if (!stands || kind == 0) {
            Check.thrown(p + "distance", IllegalArgumentException.class,
                () -> e.distance(kind, white, man, black, side));
        }
        if (!stands) {
            return;
        }
        int d = ref.distance(kind, white, man, black, side);
        if (kind > 0) {
            Check.due(p + "distance", d, () -> e.distance(kind, white, man, black, side));
        }
        Check.due(p + "left", d, e::left);
        boolean check = kind > 0 && Reference.attacks(kind, man, black, white);
        int[] about = {kind, white, man, black, side, check ? 1 : 0};
        for (int what = 0; what < 6; what++) {
            int w = what;
            Check.due(p + "about " + w, about[w], () -> e.about(w));
        }
        List<Integer> moves = ref.moves(kind, white, man, black, side);
        Check.due(p + "moves", moves.size(), e::moves);
        for (int k = 0; k < moves.size(); k++) {
            int at = k;
            Check.due(p + "move " + k, moves.get(k), () -> e.move(at));
        }
        Check.thrown(p + "move behind the last", IndexOutOfBoundsException.class, () -> e.move(moves.size()));
        int best = ref.best(kind, white, man, black, side);
        if (best < 0) {
            Check.thrown(p + "best", IllegalStateException.class, e::best);
            return;
        }
        Check.due(p + "best", best, e::best);
        play(p, e, kind, white, man, black, side, moves.get((white + 3 * black) % moves.size()));
        Check.due(p + "set again", 1, () -> e.set(kind, white, man, black, side) ? 1 : 0);
        run(p, e, new int[] {kind, white, man, black, side}, 1 + (white + man + black) % 30);
    }

    private void play(String p, EndTables e, int kind, int white, int man, int black, int side, int move) {
        int[] q = Reference.behind(kind, white, man, black, side, move);
        Check.due(p + "play " + move, ref.distance(q[0], q[1], q[2], q[3], q[4]), () -> e.play(move));
        for (int what = 0; what < 5; what++) {
            int w = what;
            Check.due(p + "about " + w + " behind " + move, q[w], () -> e.about(w));
        }
    }

    private void run(String p, EndTables e, int[] from, int n) {
        int[] q = from;
        int made = 0;
        while (made < n) {
            int best = ref.best(q[0], q[1], q[2], q[3], q[4]);
            if (best < 0) {
                break;
            }
            q = Reference.behind(q[0], q[1], q[2], q[3], q[4], best);
            made++;
        }
        Check.due(p + "run " + n, made, () -> e.run(n));
        int[] end = q;
        for (int what = 0; what < 5; what++) {
            int w = what;
            Check.due(p + "about " + w + " behind run " + n, end[w], () -> e.about(w));
        }
    }

    private void lists(int kind, int side, List<List<Integer>> found) {
        for (int d = -2; d < Math.max(found.size(), 70); d++) {
            int n = d;
            List<Integer> list = d >= -1 && d + 1 < found.size() ? found.get(d + 1) : List.of();
            String p = name(kind + "," + side + "," + n + ": ");
            EndTables e = fresh.use(40);
            Check.due(p + "count", list.size(), () -> e.count(kind, side, n));
            int every = Math.max(1, list.size() / 15);
            for (int k = 0; k < list.size(); k += every) {
                int i = k;
                Check.due(p + "find " + i, list.get(i), () -> e.find(kind, side, n, i));
            }
            if (!list.isEmpty()) {
                int last = list.size() - 1;
                Check.due(p + "find last", list.get(last), () -> e.find(kind, side, n, last));
            }
            Check.thrown(p + "find behind", IndexOutOfBoundsException.class,
                () -> e.find(kind, side, n, list.size()));
            Check.thrown(p + "find -1", IndexOutOfBoundsException.class, () -> e.find(kind, side, n, -1));
        }
    }

    private void longest(int kind) {
        int most = -1;
        for (int i = 0; i < 64 * 64 * 64; i++) {
            for (int side = 0; side < 2; side++) {
                most = Math.max(most, ref.distance(kind, i / 4096, i / 64 % 64, i % 64, side));
            }
        }
        int want = most;
        EndTables e = fresh.use(1);
        Check.due(name("longest " + kind), want, () -> e.longest(kind));
    }
}

import java.util.ArrayList;
import java.util.List;

/**
 * The document's terms again, word for word and without any thought of speed: squares are the
 * document's, moves are found by trying all squares, and distances by going over all positions
 * again and again. It shares nothing with the class that it is held against.
 */
final class Reference {
    static final int DRAWN = -1;
    private static final int OPEN = -2;
    private static final int NONE = -3;

    final int files;
    final int ranks;
    private final int[][] table = new int[6][];

    Reference(int files, int ranks) {
        this.files = files;
        this.ranks = ranks;
    }

    boolean isSquare(int s) {
        return s >= 0 && s < 64 && s % 8 < files && s / 8 < ranks;
    }

    static boolean isNext(int a, int b) {
        return a != b && Math.abs(a % 8 - b % 8) <= 1 && Math.abs(a / 8 - b / 8) <= 1;
    }

    /** Whether a man on "from" attacks "to" when only the squares of "bars" are not empty. */
    static boolean attacks(int kind, int from, int to, int... bars) {
        int df = to % 8 - from % 8;
        int dr = to / 8 - from / 8;
        if (df == 0 && dr == 0) {
            return false;
        }
        switch (kind) {
            case 1:
                return dr == 1 && Math.abs(df) == 1;
            case 2:
                return Math.abs(df) == 2 && Math.abs(dr) == 1 || Math.abs(df) == 1 && Math.abs(dr) == 2;
            case 3:
                return Math.abs(df) == Math.abs(dr) && isFree(from, to, bars);
            case 4:
                return (df == 0 || dr == 0) && isFree(from, to, bars);
            case 5:
                return attacks(3, from, to, bars) || attacks(4, from, to, bars);
            default:
                return false;
        }
    }

    private static boolean isFree(int from, int to, int[] bars) {
        int file = from % 8;
        int rank = from / 8;
        while (true) {
            file += Integer.signum(to % 8 - from % 8);
            rank += Integer.signum(to / 8 - from / 8);
            int s = file + 8 * rank;
            if (s == to) {
                return true;
            }
            for (int bar : bars) {
                if (bar == s) {
                    return false;
                }
            }
        }
    }

    boolean isPosition(int kind, int white, int man, int black, int side) {
        if (kind < 0 || kind > 5 || side < 0 || side > 1 || !isSquare(white) || !isSquare(black)) {
            return false;
        }
        if (white == black || isNext(white, black)) {
            return false;
        }
        if (kind == 0) {
            return man == 0;
        }
        if (!isSquare(man) || man == white || man == black) {
            return false;
        }
        if (kind == 1 && (man / 8 == 0 || man / 8 == ranks - 1)) {
            return false;
        }
        return side == 1 || !attacks(kind, man, black, white);
    }

    /** Moves in order. */
    List<Integer> moves(int kind, int white, int man, int black, int side) {
        List<Integer> list = new ArrayList<>();
        for (int from = 0; from < 64; from++) {
            if (from != white && from != man && from != black) {
                continue;
            }
            for (int to = 0; to < 64; to++) {
                if (!isSquare(to)) {
                    continue;
                }
                if (side == 0 && from == white) {
                    if (isNext(from, to) && !isNext(to, black) && to != black && (kind == 0 || to != man)) {
                        list.add(from + 64 * to);
                    }
                } else if (side == 0 && kind != 0 && from == man) {
                    addMan(list, kind, white, man, black, to);
                } else if (side == 1 && from == black && isNext(from, to) && !isNext(to, white) && to != white) {
                    if (kind == 0 || to == man || !attacks(kind, man, to, white)) {
                        list.add(from + 64 * to);
                    }
                }
            }
        }
        return list;
    }

    private void addMan(List<Integer> list, int kind, int white, int man, int black, int to) {
        if (to == white || to == black) {
            return;
        }
        if (kind != 1) {
            if (attacks(kind, man, to, white, black)) {
                list.add(man + 64 * to);
            }
            return;
        }
        if (to == man + 8) {
            if (to / 8 < ranks - 1) {
                list.add(man + 64 * to);
            } else {
                for (int m = 2; m <= 5; m++) {
                    list.add(man + 64 * to + 4096 * m);
                }
            }
        }
        int over = man + 8;
        if (to == man + 16 && man / 8 == 1 && over != white && over != black && to / 8 != ranks - 1) {
            list.add(man + 64 * to);
        }
    }

    /** The position behind a move: kind, white's king, man, black's king, side. */
    static int[] behind(int kind, int white, int man, int black, int side, int move) {
        int from = move % 64;
        int to = move / 64 % 64;
        int m = move / 4096;
        if (side == 1) {
            boolean takes = kind != 0 && to == man;
            return new int[] {takes ? 0 : kind, white, takes ? 0 : man, to, 0};
        }
        if (from == white) {
            return new int[] {kind, to, man, black, 1};
        }
        return new int[] {m == 0 ? kind : m, white, to, black, 1};
    }

    private static int index(int white, int man, int black, int side) {
        return ((side * 64 + white) * 64 + man) * 64 + black;
    }

    int distance(int kind, int white, int man, int black, int side) {
        if (kind == 0) {
            return DRAWN;
        }
        if (table[kind] == null) {
            solve(kind);
        }
        return table[kind][index(white, man, black, side)];
    }

    private int distance(int[] p) {
        return distance(p[0], p[1], p[2], p[3], p[4]);
    }

    private void solve(int kind) {
        int[] t = new int[2 * 64 * 64 * 64];
        table[kind] = t;
        java.util.Arrays.fill(t, NONE);
        int quiet = 0;
        for (int side = 0; side < 2; side++) {
            for (int i = 0; i < 64 * 64 * 64; i++) {
                if (isPosition(kind, i / 4096, i / 64 % 64, i % 64, side)) {
                    t[index(i / 4096, i / 64 % 64, i % 64, side)] = OPEN;
                }
            }
        }
        // What a pawn becomes may wait long for its turn, so a few quiet levels are no end.
        for (int n = 0; quiet < 60; n++) {
            quiet = level(kind, n) ? 0 : quiet + 1;
        }
        for (int i = 0; i < t.length; i++) {
            t[i] = t[i] == OPEN ? DRAWN : t[i];
        }
    }

    /** Finds all positions of distance n when those of lesser distances are found. */
    private boolean level(int kind, int n) {
        int side = n % 2 == 0 ? 1 : 0;
        boolean any = false;
        for (int i = 0; i < 64 * 64 * 64; i++) {
            int white = i / 4096;
            int man = i / 64 % 64;
            int black = i % 64;
            int at = index(white, man, black, side);
            if (table[kind][at] == OPEN && hasDistance(kind, white, man, black, side, n)) {
                table[kind][at] = n;
                any = true;
            }
        }
        return any;
    }

    private boolean hasDistance(int kind, int white, int man, int black, int side, int n) {
        List<Integer> moves = moves(kind, white, man, black, side);
        if (side == 1 && moves.isEmpty()) {
            return n == 0 && attacks(kind, man, black, white);
        }
        boolean equal = false;
        for (int move : moves) {
            int d = distance(behind(kind, white, man, black, side, move));
            equal = equal || d == n - 1 && n > 0;
            if (side == 1 && d < 0) {
                return false;
            }
        }
        return equal;
    }

    /** The best move, -1 when there is none. */
    int best(int kind, int white, int man, int black, int side) {
        List<Integer> moves = moves(kind, white, man, black, side);
        int best = -1;
        int bestDistance = 0;
        for (int move : moves) {
            int d = distance(behind(kind, white, man, black, side, move));
            if (side == 1 && d == DRAWN) {
                return move;
            }
            boolean better = side == 1 ? d > bestDistance : d != DRAWN && (bestDistance == DRAWN || d < bestDistance);
            if (best == -1 || better) {
                best = move;
                bestDistance = d;
            }
        }
        return best;
    }
}

/**
 * Chess endings of two kings and one white man on boards of 3 to 8 files and ranks: how far it is
 * to mate, the best moves, how many positions there are of each kind, and play from a position.
 *
 * Inside, a square of the board is a cell: file + files * rank. Cells keep the order of the
 * document's squares without gaps, so a set of cells is one long and small boards stay small.
 */
public final class EndTables {
    public static final int DRAWN = -1;

    private static final int WHITE = 0;
    private static final int BLACK = 1;
    private static final int NOBODY = 0;
    private static final int PAWN = 1;
    private static final int KNIGHT = 2;
    private static final int BISHOP = 3;
    private static final int ROOK = 4;
    private static final int QUEEN = 5;
    private static final int NO_CELL = -1;
    private static final int MOST_RUN = 100;

    private final Board board;
    private final Table[] tables;
    private final Position now;
    private final Position ahead;
    private final MoveList list;
    private boolean placed;

    public EndTables(int files, int ranks) {
        board = new Board(files, ranks);
        // Calls make nothing but what they throw: all that a run needs is made here, in no loop.
        tables = new Table[QUEEN + 1];
        tables[PAWN] = new Table(board, PAWN);
        tables[KNIGHT] = new Table(board, KNIGHT);
        tables[BISHOP] = new Table(board, BISHOP);
        tables[ROOK] = new Table(board, ROOK);
        tables[QUEEN] = new Table(board, QUEEN);
        now = new Position();
        ahead = new Position();
        list = new MoveList();
        placed = false;
    }

    public int size(boolean ranks) {
        return ranks ? board.ranks : board.files;
    }

    public int distance(int kind, int white, int man, int black, int side) throws IllegalArgumentException {
        if (!isMan(kind) || !lookAt(kind, white, man, black, side)) {
            throw new IllegalArgumentException("not a position");
        }
        prepare(kind);
        return pliesOf(ahead);
    }

    public int count(int kind, int side, int n) throws IllegalArgumentException {
        checkKindAndSide(kind, side);
        Table table = prepare(kind);
        return table == null ? 0 : table.amount(side, n);
    }

    public int find(int kind, int side, int n, int i) throws IllegalArgumentException, IndexOutOfBoundsException {
        checkKindAndSide(kind, side);
        Table table = prepare(kind);
        int told = table == null ? -1 : table.pick(side, n, i);
        if (told < 0) {
            throw new IndexOutOfBoundsException("not so many positions");
        }
        return told;
    }

    public int longest(int kind) throws IllegalArgumentException {
        if (!isMan(kind)) {
            throw new IllegalArgumentException("not a kind");
        }
        Table table = prepare(kind);
        return table == null ? DRAWN : table.deepest;
    }

    public boolean set(int kind, int white, int man, int black, int side) {
        if (!lookAt(kind, white, man, black, side)) {
            return false;
        }
        now.copy(ahead);
        placed = true;
        list.fill(board, now);
        return true;
    }

    public int about(int what) throws IllegalStateException, IndexOutOfBoundsException {
        checkPlaced();
        switch (what) {
            case 0:
                return now.kind;
            case 1:
                return board.squareOf(now.white);
            case 2:
                return now.kind == NOBODY ? 0 : board.squareOf(now.man);
            case 3:
                return board.squareOf(now.black);
            case 4:
                return now.side;
            case 5:
                return board.inCheck(now) ? 1 : 0;
            default:
                throw new IndexOutOfBoundsException("nothing of that number is told");
        }
    }

    public int left() throws IllegalStateException {
        checkPlaced();
        prepare(now.kind);
        return pliesOf(now);
    }

    public int moves() throws IllegalStateException {
        checkPlaced();
        return list.listed;
    }

    public int move(int k) throws IllegalStateException, IndexOutOfBoundsException {
        checkPlaced();
        if (k < 0 || k >= list.listed) {
            throw new IndexOutOfBoundsException("no such move");
        }
        return list.toldAt(k);
    }

    public int best() throws IllegalStateException {
        checkPlaced();
        if (list.listed == 0) {
            throw new IllegalStateException("no move");
        }
        prepare(now.kind);
        return bestMove();
    }

    public int play(int move) throws IllegalStateException, IllegalArgumentException {
        checkPlaced();
        if (!list.holds(move)) {
            throw new IllegalArgumentException("not a move of the position");
        }
        prepare(now.kind);
        make(move);
        return pliesOf(now);
    }

    public int run(int n) throws IllegalStateException, IllegalArgumentException {
        checkPlaced();
        if (n < 0 || n > MOST_RUN) {
            throw new IllegalArgumentException("not 0 to 100 moves");
        }
        prepare(now.kind);
        for (int made = 0; made < n; made++) {
            if (list.listed == 0) {
                return made;
            }
            make(bestMove());
        }
        return n;
    }

    private void checkPlaced() {
        if (!placed) {
            throw new IllegalStateException("no position is set");
        }
    }

    private static void checkKindAndSide(int kind, int side) {
        if (!isMan(kind) || !isSide(side)) {
            throw new IllegalArgumentException("not a kind, or not a side");
        }
    }

    private static boolean isMan(int kind) {
        return kind >= PAWN && kind <= QUEEN;
    }

    private static boolean isSide(int side) {
        return side == WHITE || side == BLACK;
    }

    /** Puts what is told into "ahead", and says whether it is a position. */
    private boolean lookAt(int kind, int white, int man, int black, int side) {
        if (kind == NOBODY && man != 0) {
            return false;
        }
        ahead.kind = kind;
        ahead.white = board.cellOf(white);
        ahead.man = kind == NOBODY ? NO_CELL : board.cellOf(man);
        ahead.black = board.cellOf(black);
        ahead.side = side;
        return board.isPosition(ahead);
    }

    /**
     * Distances are found when they are first asked for, as most calls need none or one kind's; a
     * pawn's need the others', so it comes last.
     */
    private Table prepare(int kind) {
        for (int k = QUEEN; k >= PAWN; k--) {
            Table table = tableOf(k);
            boolean needed = k == kind || kind == PAWN;
            if (needed && table != null && !table.solved) {
                table.solve(tables);
            }
        }
        return tableOf(kind);
    }

    private Table tableOf(int kind) {
        return kind >= 0 && kind < tables.length ? tables[kind] : null;
    }

    /** Looks up only: the caller has prepared the kind (and with it all that a pawn becomes). */
    private int pliesOf(Position position) {
        Table table = tableOf(position.kind);
        if (table == null) {
            return DRAWN;
        }
        return table.plies(position.side, position.white, position.man, position.black);
    }

    private int pliesBehind(int told) {
        ahead.copy(now);
        ahead.go(board, told);
        return pliesOf(ahead);
    }

    private void make(int told) {
        now.go(board, told);
        list.fill(board, now);
    }

    private int bestMove() {
        int best = list.toldAt(0);
        int plies = pliesBehind(best);
        for (int k = 1; k < list.listed; k++) {
            int told = list.toldAt(k);
            int behind = pliesBehind(told);
            if (isBetter(now.side, behind, plies)) {
                best = told;
                plies = behind;
            }
        }
        return best;
    }

    /** Whether a move to a position of this distance is better than one to that: alike is not. */
    private static boolean isBetter(int side, int plies, int than) {
        if (plies == DRAWN || than == DRAWN) {
            return plies != than && (side == BLACK) == (plies == DRAWN);
        }
        return side == BLACK ? plies > than : plies < than;
    }

    /** A position, or what might be one: its places are cells. */
    private static final class Position {
        private int kind;
        private int white;
        private int man;
        private int black;
        private int side;

        private void copy(Position other) {
            kind = other.kind;
            white = other.white;
            man = other.man;
            black = other.black;
            side = other.side;
        }

        /** Makes a move that is one of the position's. */
        private void go(Board board, int told) {
            int from = board.cellOf(told & 63);
            int to = board.cellOf(told >> 6 & 63);
            int becomes = told >> 12;
            if (side == BLACK) {
                goBlack(to);
            } else if (from == white) {
                white = to;
            } else {
                man = to;
                kind = becomes == NOBODY ? kind : becomes;
            }
            side = side == WHITE ? BLACK : WHITE;
        }

        private void goBlack(int to) {
            black = to;
            if (kind != NOBODY && to == man) {
                kind = NOBODY;
                man = NO_CELL;
            }
        }
    }

    /** The board's cells, and which of them men reach. */
    private static final class Board {
        // Straight ways come first, slanting ones next, a knight's last: each man goes a range.
        private static final int[] FILE_STEPS = {0, -1, 1, 0, -1, 1, -1, 1, -1, 1, -2, 2, -2, 2, -1, 1};
        private static final int[] RANK_STEPS = {-1, 0, 0, 1, -1, -1, 1, 1, -2, -2, -1, -1, 1, 1, 2, 2};
        private static final int WAYS = 16;
        private static final int DOWN = 0;
        private static final int UP = 3;
        private static final int FIRST_SLANT = 4;
        private static final int UP_LEFT = 6;
        private static final int UP_RIGHT = 7;
        private static final int FIRST_JUMP = 8;
        private static final int LEAST = 3;
        private static final int MOST = 8;

        private final int files;
        private final int ranks;
        private final int cells;
        private final int[] squares;
        private final int[] steps;
        private final long all;
        private final long firstFile;
        private final long lastFile;

        private Board(int files, int ranks) {
            this.files = fit(files);
            this.ranks = fit(ranks);
            cells = this.files * this.ranks;
            squares = new int[cells];
            steps = new int[WAYS * cells];
            long first = 0;
            for (int rank = 0; rank < this.ranks; rank++) {
                first |= bit(this.files * rank);
                for (int file = 0; file < this.files; file++) {
                    layCell(file, rank);
                }
            }
            all = -1L >>> 64 - cells;
            firstFile = first;
            lastFile = first << this.files - 1;
        }

        private static int fit(int length) {
            return length < LEAST || length > MOST ? MOST : length;
        }

        private void layCell(int file, int rank) {
            int cell = cellAt(file, rank);
            if (cell < 0 || cell >= cells) {
                return;
            }
            squares[cell] = file + 8 * rank;
            for (int way = 0; way < WAYS; way++) {
                steps[way * cells + cell] = cellAt(file + FILE_STEPS[way], rank + RANK_STEPS[way]);
            }
        }

        private int cellAt(int file, int rank) {
            boolean on = file >= 0 && file < files && rank >= 0 && rank < ranks;
            return on ? file + files * rank : NO_CELL;
        }

        private int cellOf(int square) {
            return square < 0 || square > 63 ? NO_CELL : cellAt(square & 7, square >> 3);
        }

        private int squareOf(int cell) {
            return cell < 0 || cell >= cells ? 0 : squares[cell];
        }

        private int rankOf(int cell) {
            return squareOf(cell) >> 3;
        }

        private static long bit(int cell) {
            return cell < 0 || cell > 63 ? 0L : 1L << cell;
        }

        /** The cell one step that way, NO_CELL beyond the edge. */
        private int step(int cell, int way) {
            if (cell < 0 || cell >= cells || way < 0 || way >= WAYS) {
                return NO_CELL;
            }
            return steps[way * cells + cell];
        }

        /** All cells that are next to one of these. */
        private long nextTo(long set) {
            long left = (set & ~firstFile) >>> 1;
            long right = (set & ~lastFile) << 1;
            long row = set | left | right;
            return (left | right | row << files | row >>> files) & all;
        }

        private long around(int cell) {
            return nextTo(bit(cell));
        }

        private static int firstWay(int kind) {
            return kind == KNIGHT ? FIRST_JUMP : kind == BISHOP ? FIRST_SLANT : 0;
        }

        /** The way behind the last one of the man. */
        private static int endOfWays(int kind) {
            switch (kind) {
                case KNIGHT:
                    return WAYS;
                case BISHOP:
                case QUEEN:
                    return FIRST_JUMP;
                case ROOK:
                    return FIRST_SLANT;
                default:
                    return 0;
            }
        }

        private static int reach(int kind) {
            return kind == KNIGHT ? 1 : MOST - 1;
        }

        /** The cells that the man attacks; its ways end on those that bar them. */
        private long attacked(int kind, int man, long bars) {
            if (kind == PAWN) {
                return bit(step(man, UP_LEFT)) | bit(step(man, UP_RIGHT));
            }
            long seen = 0;
            int reach = reach(kind);
            for (int way = firstWay(kind); way < endOfWays(kind); way++) {
                int cell = man;
                for (int i = 0; i < reach; i++) {
                    cell = step(cell, way);
                    seen |= bit(cell);
                    if (cell == NO_CELL || (bars & bit(cell)) != 0) {
                        break;
                    }
                }
            }
            return seen;
        }

        /** The cells for black's king that it shares with these two, whoever is to move. */
        private long roomForBlack(int kind, int white, int man) {
            if (white == man || !mayStand(kind, man)) {
                return 0;
            }
            return all & ~around(white) & ~bit(white) & ~bit(man);
        }

        private boolean mayStand(int kind, int man) {
            if (kind == NOBODY) {
                return true;
            }
            int rank = rankOf(man);
            return man >= 0 && man < cells && (kind != PAWN || rank > 0 && rank < ranks - 1);
        }

        private boolean inCheck(Position p) {
            return (attacked(p.kind, p.man, bit(p.white)) & bit(p.black)) != 0;
        }

        private boolean isPosition(Position p) {
            if (p.kind != NOBODY && !isMan(p.kind) || !isSide(p.side)) {
                return false;
            }
            if (p.white < 0 || (roomForBlack(p.kind, p.white, p.man) & bit(p.black)) == 0) {
                return false;
            }
            return p.side == BLACK || !inCheck(p);
        }
    }

    /** The moves of a position, in order, as they are told. */
    private static final class MoveList {
        // White's king has 8 at most and a queen 27.
        private static final int MOST_MOVES = 64;

        private final int[] told;
        private int listed;

        private MoveList() {
            told = new int[MOST_MOVES];
            listed = 0;
        }

        private int toldAt(int k) {
            return k < 0 || k >= told.length ? 0 : told[k];
        }

        private boolean holds(int wanted) {
            for (int k = 0; k < listed; k++) {
                if (toldAt(k) == wanted) {
                    return true;
                }
            }
            return false;
        }

        private void fill(Board board, Position p) {
            listed = 0;
            if (p.side == BLACK) {
                long barred = board.around(p.white) | board.attacked(p.kind, p.man, Board.bit(p.white));
                addAll(board, p.black, board.around(p.black) & ~barred);
                return;
            }
            boolean manFirst = p.kind != NOBODY && p.man < p.white;
            if (manFirst) {
                fillMan(board, p);
            }
            addAll(board, p.white, board.around(p.white) & ~board.around(p.black) & ~Board.bit(p.man));
            if (!manFirst) {
                fillMan(board, p);
            }
        }

        private void fillMan(Board board, Position p) {
            long kings = Board.bit(p.white) | Board.bit(p.black);
            if (p.kind == PAWN) {
                fillPawn(board, p.man, kings);
            } else {
                addAll(board, p.man, board.attacked(p.kind, p.man, kings) & ~kings);
            }
        }

        private void fillPawn(Board board, int man, long kings) {
            int one = board.step(man, Board.UP);
            if (one == NO_CELL || (kings & Board.bit(one)) != 0) {
                return;
            }
            if (board.rankOf(one) == board.ranks - 1) {
                for (int becomes = KNIGHT; becomes <= QUEEN; becomes++) {
                    add(board, man, one, becomes);
                }
                return;
            }
            add(board, man, one, NOBODY);
            int two = board.step(one, Board.UP);
            boolean free = two != NO_CELL && (kings & Board.bit(two)) == 0;
            if (board.rankOf(man) == 1 && free && board.rankOf(two) != board.ranks - 1) {
                add(board, man, two, NOBODY);
            }
        }

        private void addAll(Board board, int from, long targets) {
            for (int to = 0; to < board.cells; to++) {
                if ((targets & Board.bit(to)) != 0) {
                    add(board, from, to, NOBODY);
                }
            }
        }

        private void add(Board board, int from, int to, int becomes) {
            if (listed >= 0 && listed < told.length) {
                told[listed] = board.squareOf(from) + 64 * board.squareOf(to) + 4096 * becomes;
                listed++;
            }
        }
    }

    /**
     * The distances of all positions of a kind. A row holds, for one cell of the white king and
     * one of the man, a set of cells of the black king. White's distances are odd and black's
     * even, so half a distance is kept: its binary digit j in plane j.
     */
    private static final class Table {
        private static final int PLANES = 5;
        // No board has a distance above 56, so no half above 28.
        private static final int HALVES = 32;
        private static final int MOST_CELLS = 64;

        private final Board board;
        private final int kind;
        private final int rows;
        private final long[] valid;
        private final long[] known;
        private final long[] fresh;
        private final long[] planes;
        private int deepest;
        private boolean solved;

        private Table(Board board, int kind) {
            this.board = board;
            this.kind = kind;
            // No board has more cells; said here again, so that the rows' lengths can be told.
            int cells = Math.max(0, Math.min(board.cells, MOST_CELLS));
            rows = cells * cells;
            valid = new long[2 * rows];
            known = new long[2 * rows];
            fresh = new long[2 * rows];
            planes = new long[2 * rows * PLANES];
            deepest = DRAWN;
            solved = false;
        }

        private int rowOf(int side, int white, int man) {
            return side * rows + white * board.cells + man;
        }

        private static long at(long[] sets, int row) {
            return row < 0 || row >= sets.length ? 0L : sets[row];
        }

        private static void put(long[] sets, int row, long set) {
            if (row >= 0 && row < sets.length) {
                sets[row] = set;
            }
        }

        private static void add(long[] sets, int row, long set) {
            if (row >= 0 && row < sets.length) {
                sets[row] |= set;
            }
        }

        private int plies(int side, int white, int man, int black) {
            int row = rowOf(side, white, man);
            if ((at(known, row) & Board.bit(black)) == 0) {
                return DRAWN;
            }
            int half = 0;
            for (int plane = 0; plane < PLANES; plane++) {
                if ((at(planes, plane * 2 * rows + row) & Board.bit(black)) != 0) {
                    half |= 1 << plane;
                }
            }
            return pliesFor(side, half);
        }

        private static int pliesFor(int side, int half) {
            return side == WHITE ? 2 * half + 1 : 2 * half;
        }

        /** The cells of a row that have this distance, or are drawn. */
        private long having(int side, int row, int n) {
            if (n == DRAWN) {
                return at(valid, row) & ~at(known, row);
            }
            int half = n >> 1;
            if (n < 0 || half >= HALVES || pliesFor(side, half) != n) {
                return 0;
            }
            long set = at(known, row);
            for (int plane = 0; plane < PLANES; plane++) {
                long digits = at(planes, plane * 2 * rows + row);
                set &= (half >> plane & 1) == 1 ? digits : ~digits;
            }
            return set;
        }

        private int amount(int side, int n) {
            int sum = 0;
            for (int row = 0; row < rows; row++) {
                sum += Long.bitCount(having(side, side * rows + row, n));
            }
            return sum;
        }

        /** The i-th position of this distance as it is told, -1 when there are not so many. */
        private int pick(int side, int n, int i) {
            int before = i;
            for (int white = 0; white < board.cells && before >= 0; white++) {
                for (int man = 0; man < board.cells; man++) {
                    long set = having(side, rowOf(side, white, man), n);
                    int here = Long.bitCount(set);
                    if (before < here) {
                        int black = lowest(withoutLowest(set, before));
                        return board.squareOf(white) + 64 * board.squareOf(man) + 4096 * board.squareOf(black);
                    }
                    before -= here;
                }
            }
            return -1;
        }

        private static int lowest(long set) {
            return Long.bitCount((set & -set) - 1);
        }

        private static long withoutLowest(long set, int many) {
            long rest = set;
            for (int i = 0; i < many; i++) {
                rest &= rest - 1;
            }
            return rest;
        }

        /**
         * Finds the distances from mate backwards, black's and white's by turns; a pawn needs the
         * tables of all that it may become.
         */
        private void solve(Table[] others) {
            fillValid();
            for (int half = 0; half < HALVES; half++) {
                findBlack(half);
                findWhite(half, others);
            }
            solved = true;
        }

        private void fillValid() {
            for (int white = 0; white < board.cells; white++) {
                for (int man = 0; man < board.cells; man++) {
                    long room = board.roomForBlack(kind, white, man);
                    long attacked = board.attacked(kind, man, Board.bit(white));
                    put(valid, rowOf(BLACK, white, man), room);
                    put(valid, rowOf(WHITE, white, man), room & ~attacked);
                }
            }
        }

        /** Black's positions of twice this half: only where white's row has grown can there be any. */
        private void findBlack(int half) {
            for (int white = 0; white < board.cells; white++) {
                for (int man = 0; man < board.cells; man++) {
                    int row = rowOf(WHITE, white, man);
                    boolean grown = half == 0 || at(fresh, row) != 0;
                    long lost = grown ? lostIn(white, man) : 0L;
                    put(fresh, row, 0L);
                    put(fresh, rows + row, lost);
                    keep(BLACK, rows + row, half, lost);
                }
            }
        }

        /** Where black is mated, or can go only where white is known to mate. */
        private long lostIn(int white, int man) {
            int row = rowOf(WHITE, white, man);
            long mine = at(valid, rows + row) & ~at(known, rows + row);
            long check = at(valid, rows + row) & ~at(valid, row);
            long taking = Board.bit(man) & ~board.around(white);
            long targets = at(valid, row) | taking;
            long escapes = targets & ~at(known, row);
            return mine & ~board.nextTo(escapes) & (check | board.nextTo(targets));
        }

        /** White's positions of one more than black's fresh ones. */
        private void findWhite(int half, Table[] others) {
            for (int white = 0; white < board.cells; white++) {
                for (int man = 0; man < board.cells; man++) {
                    long set = at(fresh, rowOf(BLACK, white, man));
                    if (set != 0) {
                        goBack(white, man, set);
                    }
                }
            }
            if (kind == PAWN) {
                findPromotions(half, others);
            }
            keepFresh(half);
        }

        private void goBack(int white, int man, long set) {
            goBackKing(white, man, set);
            if (kind == PAWN) {
                goBackPawn(white, man, set);
            } else {
                goBackMan(white, man, set);
            }
        }

        private void keepFresh(int half) {
            for (int row = 0; row < rows; row++) {
                keep(WHITE, row, half, at(fresh, row));
            }
        }

        private void keep(int side, int row, int half, long set) {
            if (set == 0) {
                return;
            }
            add(known, row, set);
            for (int plane = 0; plane < PLANES; plane++) {
                if ((half >> plane & 1) == 1) {
                    add(planes, plane * 2 * rows + row, set);
                }
            }
            deepest = Math.max(deepest, pliesFor(side, half));
        }

        private void win(int white, int man, long set) {
            int row = rowOf(WHITE, white, man);
            add(fresh, row, set & at(valid, row) & ~at(known, row));
        }

        private void goBackKing(int white, int man, long set) {
            long from = board.around(white) & ~Board.bit(man);
            for (int cell = 0; cell < board.cells; cell++) {
                if ((from & Board.bit(cell)) != 0) {
                    win(cell, man, set);
                }
            }
        }

        /**
         * The man goes back where it could go: black's king never bars that way, as it would have
         * been in check with white to move.
         */
        private void goBackMan(int white, int man, long set) {
            long from = board.attacked(kind, man, Board.bit(white)) & ~Board.bit(white);
            for (int cell = 0; cell < board.cells; cell++) {
                if ((from & Board.bit(cell)) != 0) {
                    win(white, cell, set);
                }
            }
        }

        private void goBackPawn(int white, int man, long set) {
            int one = board.step(man, Board.DOWN);
            if (one == NO_CELL || one == white) {
                return;
            }
            win(white, one, set);
            int two = board.step(one, Board.DOWN);
            if (two != NO_CELL && board.rankOf(two) == 1) {
                win(white, two, set & ~Board.bit(one));
            }
        }

        private void findPromotions(int half, Table[] others) {
            for (int white = 0; white < board.cells; white++) {
                for (int man = 0; man < board.cells; man++) {
                    int to = board.step(man, Board.UP);
                    if (to != NO_CELL && board.rankOf(to) == board.ranks - 1) {
                        win(white, man, promoted(half, white, to, others));
                    }
                }
            }
        }

        private long promoted(int half, int white, int to, Table[] others) {
            long set = 0;
            int row = rowOf(BLACK, white, to);
            for (int other = KNIGHT; other <= QUEEN; other++) {
                if (other < others.length && others[other] != null) {
                    set |= others[other].having(BLACK, row, 2 * half);
                }
            }
            return set;
        }
    }
}

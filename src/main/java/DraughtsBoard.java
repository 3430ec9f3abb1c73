/**
 * Draughts on a board of eight rows: which moves there are, and how many ways the play can go on.
 *
 * <p>Every question about moves lists the moves of the position anew, so that no list can be out of date.
 */
public final class DraughtsBoard {
    public static final int BAD = -1;

    private static final int EMPTY = 0;
    private static final int MAN_0 = 1;
    private static final int MAN_1 = 3;
    private static final int KING_1 = 4;

    private static final int ROWS = 8;
    private static final int SQUARES_IN_ROW = 4;
    private static final int SQUARES = 32;
    private static final int LAST_ROW_BEGINS = 28;

    // A piece can go four ways: 0 and 1 to lesser rows, 2 and 3 to greater ones, the lesser column first.
    // Their order is that of the squares they lead to, so trying them in turn gives paths in dictionary order.
    private static final int WAYS = 4;
    private static final int FIRST_WAY_TO_GREATER_ROWS = 2;
    private static final int STEPS_ON_BOARD = 128;
    private static final int NONE = -1;

    // The position itself is ply 0; plays() looks at positions one and two moves further on.
    // What is kept for each ply stands ply after ply in one array: 3 times 32 cells, 3 times 512 moves, and so on.
    private static final int PLIES = 3;
    private static final int CELLS = 96;

    // The jumps of one piece only ever cross the same nine squares, each once, so ten squares hold any path.
    private static final int LONGEST_PATH = 10;
    // A square is the beginning of at most 16 moves, and all 32 together of at most 424, whatever stands where.
    private static final int MOST_MOVES = 512;
    private static final int LISTED_MOVES = 1536;
    private static final int LISTED_SQUARES = 15360;
    private static final int MANY_ROUNDS = 1000000;

    private static final int REMEMBERED = 20;
    private static final int REMEMBERED_CELLS = 640;

    private static final int MOST_PLAYS_DEPTH = 3;

    private final int[] cells = new int[CELLS];
    private int mover = 0;

    private final int[] near = new int[STEPS_ON_BOARD];
    private final int[] far = new int[STEPS_ON_BOARD];

    private final int[] listed = new int[PLIES];
    private final int[] lengths = new int[LISTED_MOVES];
    private final int[] takenSets = new int[LISTED_MOVES];
    private final int[] paths = new int[LISTED_SQUARES];

    private final int[] trail = new int[LONGEST_PATH];
    private final int[] nextWays = new int[LONGEST_PATH];

    private final int[] past = new int[REMEMBERED_CELLS];
    private int pastNext = 0;
    private int pastCount = 0;

    public DraughtsBoard() {
        fillWays();
    }

    public boolean place(int square, int piece) {
        if (!isSquare(square) || piece < EMPTY || piece > KING_1 || isManInLastRow(piece, square)) {
            return false;
        }
        cells[square] = piece;
        forgetPast();
        return true;
    }

    public void start() {
        for (int square = 0; square < SQUARES; square++) {
            cells[square] = square < 12 ? MAN_0 : square < 20 ? EMPTY : MAN_1;
        }
        mover = 0;
        forgetPast();
    }

    public boolean turn(int side) {
        if (side != 0 && side != 1) {
            return false;
        }
        mover = side;
        forgetPast();
        return true;
    }

    public int side() {
        return mover;
    }

    public int at(int square) {
        return isSquare(square) ? cells[square] : BAD;
    }

    public int count(int piece) {
        if (piece < MAN_0 || piece > KING_1) {
            return BAD;
        }
        int found = 0;
        for (int square = 0; square < SQUARES; square++) {
            if (cells[square] == piece) {
                found++;
            }
        }
        return found;
    }

    public int moves() {
        listMoves(0);
        return listed[0];
    }

    public boolean mustJump() {
        listMoves(0);
        return listed[0] > 0 && takenSets[0] != 0;
    }

    public int path(int k, int i) {
        if (!listAndFind(k) || i < 0 || i >= lengths[k]) {
            return BAD;
        }
        return paths[k * LONGEST_PATH + i];
    }

    public int length(int k) {
        return listAndFind(k) ? lengths[k] : BAD;
    }

    public int play(int k) {
        if (!listAndFind(k)) {
            return BAD;
        }
        rememberPosition();
        carryOut(0, k, 0);
        mover = 1 - mover;
        return takenBy(k);
    }

    public boolean back() {
        if (pastCount == 0) {
            return false;
        }
        pastCount--;
        pastNext = pastNext == 0 ? REMEMBERED - 1 : pastNext - 1;
        for (int square = 0; square < SQUARES; square++) {
            cells[square] = past[pastNext * SQUARES + square];
        }
        // Sides alternate within the remembered moves: turn and start forget them.
        mover = 1 - mover;
        return true;
    }

    public int plays(int d) {
        if (d < 0 || d > MOST_PLAYS_DEPTH) {
            return BAD;
        }
        if (d == 0) {
            return 1;
        }
        listMoves(0);
        if (d == 1) {
            return listed[0];
        }
        int all = listed[0];
        int ways = 0;
        for (int k = 0; k < all; k++) {
            carryOut(0, k, 1);
            ways += d == 2 ? waysForOne() : waysForTwo();
        }
        return ways;
    }

    public int mostTaken() {
        listMoves(0);
        int all = listed[0];
        int most = 0;
        for (int k = 0; k < all; k++) {
            int taken = takenBy(k);
            if (taken > most) {
                most = taken;
            }
        }
        return most;
    }

    public int movable() {
        listMoves(0);
        int all = listed[0];
        int squares = 0;
        for (int k = 0; k < all; k++) {
            squares |= 1 << paths[k * LONGEST_PATH];
        }
        return squares;
    }

    private void fillWays() {
        for (int square = 0; square < SQUARES; square++) {
            int row = square / SQUARES_IN_ROW;
            int column = square % SQUARES_IN_ROW * 2 + (row % 2 == 0 ? 1 : 0);
            for (int way = 0; way < WAYS; way++) {
                int down = way < FIRST_WAY_TO_GREATER_ROWS ? -1 : 1;
                int across = way % 2 == 0 ? -1 : 1;
                near[square * WAYS + way] = squareAt(row + down, column + across);
                far[square * WAYS + way] = squareAt(row + 2 * down, column + 2 * across);
            }
        }
    }

    private static int squareAt(int row, int column) {
        boolean onBoard = row >= 0 && row < ROWS && column >= 0 && column < ROWS;
        return onBoard ? row * SQUARES_IN_ROW + column / 2 : NONE;
    }

    private static boolean isSquare(int square) {
        return square >= 0 && square < SQUARES;
    }

    private static boolean isManInLastRow(int piece, int square) {
        return piece == MAN_0 && square >= LAST_ROW_BEGINS || piece == MAN_1 && square < SQUARES_IN_ROW;
    }

    private static int ownerOf(int piece) {
        return piece == EMPTY ? NONE : piece < MAN_1 ? 0 : 1;
    }

    private static int firstWayOf(int piece) {
        return piece == MAN_0 ? FIRST_WAY_TO_GREATER_ROWS : 0;
    }

    private static int endOfWaysOf(int piece) {
        return piece == MAN_1 ? FIRST_WAY_TO_GREATER_ROWS : WAYS;
    }

    private boolean listAndFind(int k) {
        listMoves(0);
        return k >= 0 && k < listed[0];
    }

    private void listMoves(int ply) {
        int side = ply == 1 ? 1 - mover : mover;
        listed[ply] = 0;
        for (int square = 0; square < SQUARES; square++) {
            if (ownerOf(cells[ply * SQUARES + square]) == side) {
                listJumps(ply, square);
            }
        }
        if (listed[ply] > 0) {
            return;
        }
        for (int square = 0; square < SQUARES; square++) {
            if (ownerOf(cells[ply * SQUARES + square]) == side) {
                listSteps(ply, square);
            }
        }
    }

    private void listSteps(int ply, int square) {
        int piece = cells[ply * SQUARES + square];
        int end = endOfWaysOf(piece);
        trail[0] = square;
        for (int way = firstWayOf(piece); way < end; way++) {
            int to = near[square * WAYS + way];
            if (to != NONE && cells[ply * SQUARES + to] == EMPTY) {
                trail[1] = to;
                addMove(ply, 2, 0);
            }
        }
    }

    // Walks through all rows of jumps depth first; the trail and the next way to try at each of its squares
    // stand in for the calls of a recursion.
    private void listJumps(int ply, int square) {
        int piece = cells[ply * SQUARES + square];
        int first = firstWayOf(piece);
        int end = endOfWaysOf(piece);
        int depth = 0;
        int jumped = 0;
        boolean justArrived = true;
        trail[0] = square;
        nextWays[0] = first;
        for (int round = 0; round < MANY_ROUNDS && depth >= 0; round++) {
            int way = nextWays[depth];
            if (way >= end) {
                // Only a row of jumps that can't go on is a move.
                if (justArrived && depth > 0) {
                    addMove(ply, depth + 1, jumped);
                }
                justArrived = false;
                depth--;
                if (depth >= 0) {
                    jumped &= ~(1 << near[trail[depth] * WAYS + nextWays[depth] - 1]);
                }
            } else {
                int step = trail[depth] * WAYS + way;
                nextWays[depth] = way + 1;
                if (depth + 1 < LONGEST_PATH && canJump(ply, step, jumped)) {
                    jumped |= 1 << near[step];
                    depth++;
                    trail[depth] = far[step];
                    nextWays[depth] = first;
                    justArrived = true;
                }
            }
        }
    }

    // While its jumps are listed the moving piece still stands in the cell where it began: hence to == begin.
    private boolean canJump(int ply, int step, int jumped) {
        int over = near[step];
        int to = far[step];
        if (to == NONE || (jumped & 1 << over) != 0) {
            return false;
        }
        int begin = trail[0];
        int own = ownerOf(cells[ply * SQUARES + begin]);
        int other = ownerOf(cells[ply * SQUARES + over]);
        return other == 1 - own && (to == begin || cells[ply * SQUARES + to] == EMPTY);
    }

    private void addMove(int ply, int length, int jumped) {
        if (listed[ply] >= MOST_MOVES) {
            return;
        }
        int move = ply * MOST_MOVES + listed[ply];
        lengths[move] = length;
        takenSets[move] = jumped;
        for (int i = 0; i < length; i++) {
            paths[move * LONGEST_PATH + i] = trail[i];
        }
        listed[ply]++;
    }

    private int takenBy(int k) {
        return takenSets[k] == 0 ? 0 : lengths[k] - 1;
    }

    private void carryOut(int ply, int k, int targetPly) {
        int move = ply * MOST_MOVES + k;
        int from = paths[move * LONGEST_PATH];
        int to = paths[move * LONGEST_PATH + lengths[move] - 1];
        int piece = cells[ply * SQUARES + from];
        for (int square = 0; square < SQUARES; square++) {
            boolean taken = (takenSets[move] & 1 << square) != 0;
            cells[targetPly * SQUARES + square] = taken ? EMPTY : cells[ply * SQUARES + square];
        }
        // A row of jumps may end where it began, so the first square is emptied before the last is filled.
        cells[targetPly * SQUARES + from] = EMPTY;
        cells[targetPly * SQUARES + to] = isManInLastRow(piece, to) ? piece + 1 : piece;
    }

    private int waysForOne() {
        listMoves(1);
        return listed[1];
    }

    private int waysForTwo() {
        listMoves(1);
        int all = listed[1];
        int ways = 0;
        for (int k = 0; k < all; k++) {
            carryOut(1, k, 2);
            listMoves(2);
            ways += listed[2];
        }
        return ways;
    }

    private void rememberPosition() {
        for (int square = 0; square < SQUARES; square++) {
            past[pastNext * SQUARES + square] = cells[square];
        }
        pastNext = pastNext == REMEMBERED - 1 ? 0 : pastNext + 1;
        if (pastCount < REMEMBERED) {
            pastCount++;
        }
    }

    private void forgetPast() {
        pastCount = 0;
    }
}

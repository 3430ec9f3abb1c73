// The document read sentence by sentence: each sentence that names a boundary (too small, too large, empty, full,
// at the edge of the board, refused, none left) has a test of its own here, which says the sentence when it fails.
public final class BoundaryTest {
    private static final int BAD = DraughtsBoard.BAD;
    private static final int[] TOO_SMALL = {-1, -2, -32, Integer.MIN_VALUE + 1, Integer.MIN_VALUE};
    private static final int[] TOO_LARGE_SQUARES = {32, 33, 63, 96, 1 << 16, Integer.MAX_VALUE};
    private static final int[] TOO_LARGE_PIECES = {5, 6, 32, 1 << 8, 1 << 16, Integer.MAX_VALUE};

    private static int wrong = 0;
    private static int tests = 0;
    private static String sentence = "";

    public static void main(String[] args) {
        callsUpTo512();
        badIsMinusOne();
        terms();
        promises1To7();
        promises8To11();
        promises12And13();
        promises14To17();
        System.out.println(wrong == 0 ? "all " + tests + " boundaries hold" : wrong + " answers are not as due");
        if (wrong != 0) {
            System.exit(1);
        }
    }

    private static void terms() {
        squaresAreNumberedRowByRow();
        menGoOneWayKingsBoth();
        stepOnlyToAnEmptySquare();
        jumpTwoRowsAndTwoColumns();
        jumpOnlyOverTheOtherSide();
        jumpNoPieceTwice();
        jumpOnlyToAnEmptySquare();
        jumpToTheBeginning();
        mustGoOn();
        manStopsInTheLastRow();
        kingGoesOnInTheLastRow();
        jumpedPiecesAreTakenOff();
        manBecomesKingInTheLastRow();
        noStepsWhenASideCanJump();
        dictionaryOrder();
    }

    private static void promises1To7() {
        newObjectIsEmpty();
        placeEveryPieceOnEverySquare();
        placeOnNoSquare();
        placeNoPiece();
        placeManInLastRow();
        placeRefusedKeepsMoves();
        placeForgetsMoves();
        startOverAFullBoard();
        startForgetsMoves();
        turnToAnySide();
        turnToNoSide();
        turnForgetsMoves();
        sideToMove();
        atTheFirstAndTheLastSquare();
        atNoSquare();
        countOfEmptyAndFull();
        countOfNoKind();
    }

    private static void promises8To11() {
        movesNoneAndMany();
        mustJumpOnlyWhenItCan();
        pathFirstAndLast();
        pathOfNoMove();
        pathAtNoPlace();
        lengthShortestAndLongest();
        lengthOfNoMove();
    }

    private static void promises12And13() {
        playFirstAndLastMove();
        playTakesNoneToNine();
        playNoMove();
        backOfNothing();
        backSkipsWhatWasTakenBack();
        backOfTwentyOnly();
        backWithTheMemoryRoundItsEnd();
    }

    private static void promises14To17() {
        playsOfNoMoves();
        playsThatEndEarly();
        playsOfNoDepth();
        playsChangesNothing();
        mostTakenNone();
        mostTakenGreatest();
        movableFirstAndLastBit();
        movableNone();
        refusedTurnChangesNothing();
    }

    private static void begin(String part, String words) {
        sentence = part + ", \"" + words + "\"";
        tests++;
    }

    private static void due(String what, long got, long want) {
        if (got != want) {
            wrong++;
            System.out.println(sentence + ": " + what + ": answered " + got + ", due is " + want);
        }
    }

    private static void due(String what, boolean got, boolean want) {
        due(what, got ? 1 : 0, want ? 1 : 0);
    }

    // A board with the side to move and then pairs of a square and a piece.
    private static DraughtsBoard board(int side, int... squaresAndPieces) {
        DraughtsBoard x = new DraughtsBoard();
        for (int i = 0; i < squaresAndPieces.length; i += 2) {
            due("place for a position", x.place(squaresAndPieces[i], squaresAndPieces[i + 1]), true);
        }
        due("turn for a position", x.turn(side), true);
        return x;
    }

    private static DraughtsBoard full(int side, int piece) {
        DraughtsBoard x = board(side);
        for (int square = 0; square < 32; square++) {
            due("place for a full board", x.place(square, piece), true);
        }
        return x;
    }

    private static DraughtsBoard started() {
        DraughtsBoard x = new DraughtsBoard();
        x.start();
        return x;
    }

    private static void dueMoves(String what, DraughtsBoard x, int[]... paths) {
        due(what + ": moves()", x.moves(), paths.length);
        for (int k = 0; k < paths.length; k++) {
            due(what + ": length(" + k + ")", x.length(k), paths[k].length);
            for (int i = 0; i < paths[k].length; i++) {
                due(what + ": path(" + k + ", " + i + ")", x.path(k, i), paths[k][i]);
            }
        }
    }

    private static int[] way(int... squares) {
        return squares;
    }

    private static void dueBoard(String what, DraughtsBoard x, int... squaresAndPieces) {
        int[] want = new int[32];
        for (int i = 0; i < squaresAndPieces.length; i += 2) {
            want[squaresAndPieces[i]] = squaresAndPieces[i + 1];
        }
        for (int square = 0; square < 32; square++) {
            due(what + ": at(" + square + ")", x.at(square), want[square]);
        }
    }

    private static int row(int square) {
        return square / 4;
    }

    private static int column(int square) {
        return square % 4 * 2 + 1 - row(square) % 2;
    }

    // The square's number, counted out on the board; -1 where there is none.
    private static int number(int row, int column) {
        int number = 0;
        for (int r = 0; r < 8; r++) {
            for (int c = 0; c < 8; c++) {
                if (r == row && c == column) {
                    return number;
                }
                number += (r + c) % 2;
            }
        }
        return -1;
    }

    private static boolean goes(int piece, int down) {
        return piece == 2 || piece == 4 || piece == (down > 0 ? 1 : 3);
    }

    private static int sideOf(int piece) {
        return piece <= 2 ? 0 : 1;
    }

    private static boolean mayStand(int piece, int square) {
        return !(piece == 1 && row(square) == 7) && !(piece == 3 && row(square) == 0);
    }

    private static void callsUpTo512() {
        begin("What it is", "An object is used for at most 512 calls after it has been made");
        DraughtsBoard x = started();
        for (int i = 0; i < 255; i++) {
            due("play " + i, x.play(i % 7), 0);
            due("back " + i, x.back(), true);
        }
        due("the 512th call, moves()", x.moves(), 7);
        x = twoKings();
        playRounds(x, 488);
        for (int i = 0; i < 20; i++) {
            due("back " + i + " after 491 calls", x.back(), true);
        }
        due("the 512th call, back()", x.back(), false);
        x = twoKings();
        playRounds(x, 508);
        due("the 512th call, at(28)", x.at(28), 2);
    }

    private static void badIsMinusOne() {
        begin("The public face", "public static final int BAD = -1;");
        due("BAD", DraughtsBoard.BAD, -1);
    }

    private static void squaresAreNumberedRowByRow() {
        begin("Terms", "they are numbered 0 .. 31, row by row from row 0 on, in each row from the lesser column on");
        for (int square = 0; square < 32; square++) {
            due("number of square " + square, number(row(square), column(square)), square);
            for (int king = 2; king <= 4; king += 2) {
                dueSteps(king, square);
            }
        }
    }

    private static void menGoOneWayKingsBoth() {
        begin("Terms", "Men of side 0 go to greater rows, men of side 1 to lesser ones, kings both ways.");
        for (int square = 0; square < 32; square++) {
            for (int piece = 1; piece <= 4; piece++) {
                if (mayStand(piece, square)) {
                    dueSteps(piece, square);
                }
            }
        }
    }

    // A piece alone on the board has the steps to its neighbours, and at the edges of the board only those there are.
    private static void dueSteps(int piece, int square) {
        DraughtsBoard x = board(sideOf(piece), square, piece);
        int k = 0;
        for (int down = -1; down <= 1; down += 2) {
            for (int across = -1; across <= 1; across += 2) {
                int to = number(row(square) + down, column(square) + across);
                if (to >= 0 && goes(piece, down)) {
                    due("piece " + piece + " on " + square + ": from", x.path(k, 0), square);
                    due("piece " + piece + " on " + square + ": to", x.path(k, 1), to);
                    due("piece " + piece + " on " + square + ": length", x.length(k), 2);
                    k++;
                }
            }
        }
        due("piece " + piece + " on " + square + ": moves", x.moves(), k);
    }

    private static void stepOnlyToAnEmptySquare() {
        begin("Terms", "A STEP goes from a square to an empty one that is one row (in a direction the piece can go) "
                + "and one column away.");
        // At the side of the board a man has one step; the king behind it leaves no room for a jump.
        for (int piece = 0; piece <= 4; piece++) {
            DraughtsBoard x = board(0, 12, 1, 16, piece, 21, 2);
            due("man on 12, before it " + piece, x.movable() >> 12 & 1, piece == 0 ? 1 : 0);
            x = board(1, 19, 3, 15, piece, 10, 4);
            due("man on 19, before it " + piece, x.movable() >> 19 & 1, piece == 0 ? 1 : 0);
        }
        due("a board full of kings of side 0", full(0, 2).moves(), 0);
        due("a board full of kings of side 1", full(1, 4).moves(), 0);
        DraughtsBoard x = full(0, 2);
        due("one square made empty", x.place(17, 0), true);
        dueMoves("one empty square", x, way(13, 17), way(14, 17), way(21, 17), way(22, 17));
    }

    private static void jumpTwoRowsAndTwoColumns() {
        begin("Terms", "A JUMP goes from a square to one that is two rows (in such a direction) and two columns away");
        for (int square = 0; square < 32; square++) {
            for (int piece = 1; piece <= 4; piece++) {
                for (int way = 0; way < 4; way++) {
                    dueOneJump(square, piece, way < 2 ? -1 : 1, way % 2 == 0 ? -1 : 1);
                }
            }
        }
    }

    private static void dueOneJump(int square, int piece, int down, int across) {
        int over = number(row(square) + down, column(square) + across);
        int to = number(row(square) + 2 * down, column(square) + 2 * across);
        boolean can = to >= 0 && goes(piece, down);
        for (int other = piece <= 2 ? 3 : 1; other <= (piece <= 2 ? 4 : 2); other++) {
            if (over >= 0 && mayStand(piece, square) && mayStand(other, over)) {
                String what = piece + " on " + square + " over " + other + " on " + over;
                DraughtsBoard x = board(sideOf(piece), square, piece, over, other);
                due(what + ": mustJump", x.mustJump(), can);
                if (can) {
                    dueMoves(what, x, way(square, to));
                }
            }
        }
    }

    private static void jumpOnlyOverTheOtherSide() {
        begin("Terms", "over the square between, which must have a piece of the other side");
        for (int between = 0; between <= 4; between++) {
            due("man of side 0 over " + between, board(0, 9, 1, 14, between).mustJump(), between >= 3);
            due("king of side 0 over " + between, board(0, 9, 2, 14, between).mustJump(), between >= 3);
            boolean isOfSide0 = between == 1 || between == 2;
            due("man of side 1 over " + between, board(1, 22, 3, 17, between).mustJump(), isOfSide0);
            due("king of side 1 over " + between, board(1, 22, 4, 17, between).mustJump(), isOfSide0);
        }
    }

    private static void jumpNoPieceTwice() {
        begin("Terms", "that was not jumped in this move before");
        dueMoves("not there and back", board(0, 9, 2, 14, 3), way(9, 18));
        dueMoves("not there and back", board(1, 18, 4, 14, 2), way(18, 9));
        dueMoves("not a second round", board(0, 9, 2, 13, 3, 14, 3, 21, 3, 22, 3),
                way(9, 16, 25, 18, 9), way(9, 18, 25, 16, 9));
        dueMoves("on the way back neither", board(0, 1, 2, 6, 3, 14, 3), way(1, 10, 17));
    }

    private static void jumpOnlyToAnEmptySquare() {
        begin("Terms", "the square it goes to must be empty, or the one from which the move began");
        for (int piece = 0; piece <= 4; piece++) {
            due("man of side 0 onto " + piece, board(0, 9, 1, 14, 3, 18, piece).mustJump(), piece == 0);
            due("king of side 1 onto " + piece, board(1, 22, 4, 17, 2, 13, piece).mustJump(), piece == 0);
        }
        // A piece of either side on the far square of a circle cuts it.
        dueMoves("a circle cut by one's own", board(0, 9, 2, 13, 3, 14, 3, 21, 3, 22, 3, 25, 1),
                way(9, 16), way(9, 18));
        dueMoves("a circle cut by the other side", board(0, 9, 2, 13, 3, 14, 3, 21, 3, 22, 3, 25, 4),
                way(9, 16), way(9, 18));
    }

    private static void jumpToTheBeginning() {
        begin("Terms", "or the one from which the move began");
        dueMoves("it ends there", board(1, 25, 4, 13, 1, 14, 1, 21, 1, 22, 1),
                way(25, 16, 9, 18, 25), way(25, 18, 9, 16, 25));
        dueMoves("it goes on from there", board(0, 9, 2, 13, 3, 14, 3, 21, 3, 22, 3, 5, 3),
                way(9, 0), way(9, 16, 25, 18, 9, 0), way(9, 18, 25, 16, 9, 0));
        DraughtsBoard x = board(0, 9, 2, 13, 3, 14, 3, 21, 3, 22, 3);
        due("played, it takes four", x.play(0), 4);
        dueBoard("played, the king stands where it began", x, 9, 2);
    }

    private static void mustGoOn() {
        begin("Terms", "as long as the piece can jump on (it must go on");
        dueMoves("one jump", board(0, 1, 1, 6, 3), way(1, 10));
        dueMoves("two jumps", board(0, 1, 1, 6, 3, 15, 3), way(1, 10, 19));
        dueMoves("no third one off the board", board(0, 1, 1, 6, 3, 15, 3, 23, 3), way(1, 10, 19, 26));
        dueMoves("no third one onto a piece", board(0, 1, 1, 6, 3, 15, 3, 23, 3, 26, 4), way(1, 10, 19));
        dueMoves("one of two ways goes on", board(1, 30, 3, 25, 1, 17, 1, 16, 1, 9, 1),
                way(30, 21, 12), way(30, 21, 14, 5));
        dueMoves("a man does not go on backwards", board(0, 1, 1, 6, 3, 7, 3), way(1, 10));
        dueMoves("a king does", board(0, 1, 2, 6, 3, 7, 3), way(1, 10, 3));
    }

    private static void manStopsInTheLastRow() {
        begin("Terms", "a man that comes to the last row it can go to, row 7 for side 0 and row 0 for side 1, does not "
                + "go on");
        dueMoves("side 0, to the right", board(0, 21, 1, 25, 3, 26, 3), way(21, 30));
        dueMoves("side 0, to the left", board(0, 23, 1, 26, 3, 25, 3), way(23, 30));
        dueMoves("side 1, to the left", board(1, 10, 3, 6, 1, 5, 1), way(10, 1));
        dueMoves("side 1, to the right", board(1, 8, 3, 5, 2, 6, 2), way(8, 1));
        dueMoves("side 0 after three jumps", board(0, 5, 1, 9, 3, 17, 3, 25, 3, 26, 3), way(5, 14, 21, 30));
        dueMoves("side 1 after three jumps", board(1, 26, 3, 22, 1, 14, 1, 6, 1, 5, 1), way(26, 17, 10, 1));
        dueMoves("one row before it a man goes on", board(0, 12, 1, 16, 3, 25, 4), way(12, 21, 30));
    }

    private static void kingGoesOnInTheLastRow() {
        begin("Terms", "a man that comes to the last row it can go to, row 7 for side 0 and row 0 for side 1, does not "
                + "go on");
        dueMoves("king of side 0 in row 7", board(0, 21, 2, 25, 3, 26, 3), way(21, 30, 23));
        dueMoves("king of side 0 in row 0", board(0, 10, 2, 6, 3, 5, 4), way(10, 1, 8));
        dueMoves("king of side 1 in row 0", board(1, 10, 4, 6, 1, 5, 1), way(10, 1, 8));
        dueMoves("king of side 1 in row 7", board(1, 21, 4, 25, 1, 26, 2), way(21, 30, 23));
    }

    private static void jumpedPiecesAreTakenOff() {
        begin("Terms", "All jumped pieces stay on the board until the move is over, and are taken off then");
        DraughtsBoard x = board(0, 1, 1, 6, 3, 15, 4, 14, 1, 8, 3, 31, 4);
        due("two are jumped", x.play(0), 2);
        dueBoard("those two alone are gone", x, 19, 1, 14, 1, 8, 3, 31, 4);
        // Between its jumps a piece crosses its own way again: what it jumped first still bars it.
        x = nineMen();
        dueMoves("nine men and a king", x,
                way(0, 9, 2, 11, 18, 9, 16, 25, 18, 27), way(0, 9, 2, 11, 18, 25, 16, 9, 18, 27),
                way(0, 9, 2, 11, 18, 27), way(0, 9, 16, 25, 18, 9, 2, 11, 18, 27),
                way(0, 9, 16, 25, 18, 11, 2, 9, 18, 27), way(0, 9, 16, 25, 18, 27),
                way(0, 9, 18, 11, 2, 9, 16, 25, 18, 27), way(0, 9, 18, 25, 16, 9, 2, 11, 18, 27),
                way(0, 9, 18, 27));
        due("nine are jumped", x.play(0), 9);
        dueBoard("all nine are gone", x, 27, 4);
    }

    // A king of side 1 in the corner, and a man of side 0 on each square that it can ever jump over.
    private static DraughtsBoard nineMen() {
        return board(1, 0, 4, 5, 1, 6, 1, 7, 1, 13, 1, 14, 1, 15, 1, 21, 1, 22, 1, 23, 1);
    }

    private static void manBecomesKingInTheLastRow() {
        begin("Terms", "a man that ended in that last row becomes a king");
        for (int square = 0; square < 32; square++) {
            for (int piece = 1; piece <= 4; piece++) {
                for (int k = 0; k < 4 && mayStand(piece, square); k++) {
                    dueCrownAfterStep(piece, square, k);
                }
            }
        }
        DraughtsBoard x = board(0, 21, 1, 25, 3, 26, 3);
        due("a jump to row 7", x.play(0), 1);
        dueBoard("a jump to row 7", x, 30, 2, 26, 3);
        x = board(1, 10, 3, 6, 1, 5, 2);
        due("a jump to row 0", x.play(0), 1);
        dueBoard("a jump to row 0", x, 1, 4, 5, 2);
        x = board(0, 17, 1, 22, 3);
        due("a jump to row 6", x.play(0), 1);
        dueBoard("a jump to row 6", x, 26, 1);
    }

    private static void dueCrownAfterStep(int piece, int square, int k) {
        DraughtsBoard x = board(sideOf(piece), square, piece);
        int to = x.path(k, 1);
        if (to == BAD) {
            return;
        }
        due("piece " + piece + " from " + square + " to " + to, x.play(k), 0);
        boolean crowned = piece == 1 && to >= 28 || piece == 3 && to <= 3;
        dueBoard("piece " + piece + " from " + square, x, to, crowned ? piece + 1 : piece);
    }

    private static void noStepsWhenASideCanJump() {
        begin("Terms", "When a side can jump, its steps are no moves.");
        dueMoves("no step of the piece that jumps", board(0, 9, 1, 14, 3), way(9, 18));
        dueMoves("no step of pieces before and behind it", board(0, 0, 1, 9, 1, 14, 3, 24, 2), way(9, 18));
        dueMoves("a jump of the last square's king alone", board(1, 31, 4, 26, 1, 4, 3, 5, 3, 8, 4), way(31, 22));
        dueMoves("the other side's jump rules nothing out", board(1, 5, 1, 9, 3, 0, 1, 1, 1, 4, 1),
                way(9, 6));
    }

    private static void dictionaryOrder() {
        begin("Terms", "Moves of a side are ordered by their paths, in the dictionary order; the first has the number "
                + "0.");
        dueMoves("by the first square", board(0, 0, 2, 31, 2, 12, 1),
                way(0, 4), way(0, 5), way(12, 16), way(31, 26), way(31, 27));
        dueMoves("by the second", board(1, 14, 4), way(14, 9), way(14, 10), way(14, 17), way(14, 18));
        dueMoves("by a later one, not by the length", board(0, 1, 1, 6, 3, 14, 3, 15, 3, 21, 3),
                way(1, 10, 17, 24), way(1, 10, 19));
        dueMoves("the shorter first where its squares are lesser", board(0, 1, 1, 6, 3, 14, 3, 15, 3, 23, 3),
                way(1, 10, 17), way(1, 10, 19, 26));
        dueMoves("jumps of two pieces", board(0, 10, 1, 9, 1, 14, 3), way(9, 18), way(10, 17));
    }

    private static void newObjectIsEmpty() {
        begin("Promise 1", "An empty board; side 0 is to move.");
        DraughtsBoard x = new DraughtsBoard();
        dueBoard("new", x);
        due("side", x.side(), 0);
        for (int piece = 1; piece <= 4; piece++) {
            due("count(" + piece + ")", x.count(piece), 0);
        }
        due("moves", x.moves(), 0);
        due("back", x.back(), false);
        due("a second object", started().at(0), 1);
        due("leaves the first alone", x.at(0), 0);
    }

    private static void placeEveryPieceOnEverySquare() {
        begin("Promise 2", "Puts a piece (0 to 4, 0 for none) on a square and answers true");
        for (int square = 0; square < 32; square++) {
            for (int piece = 0; piece <= 4; piece++) {
                for (int before = 0; before <= 4; before++) {
                    if (mayStand(piece, square) && mayStand(before, square)) {
                        DraughtsBoard x = board(1, square, before);
                        due("place(" + square + ", " + piece + ")", x.place(square, piece), true);
                        dueBoard("place(" + square + ", " + piece + ") on " + before, x, square, piece);
                        due("side", x.side(), 1);
                    }
                }
            }
        }
    }

    private static void placeOnNoSquare() {
        begin("Promise 2", "false, changing nothing, when there is no such square or piece");
        for (int piece = 0; piece <= 4; piece++) {
            DraughtsBoard x = board(1, 0, 2, 31, 4);
            for (int square : TOO_SMALL) {
                due("place(" + square + ", " + piece + ")", x.place(square, piece), false);
            }
            for (int square : TOO_LARGE_SQUARES) {
                due("place(" + square + ", " + piece + ")", x.place(square, piece), false);
            }
            dueBoard("refused", x, 0, 2, 31, 4);
            due("side", x.side(), 1);
        }
    }

    private static void placeNoPiece() {
        begin("Promise 2", "false, changing nothing, when there is no such square or piece");
        DraughtsBoard x = board(1, 0, 2, 31, 4);
        for (int square : new int[] {0, 12, 31}) {
            for (int piece : TOO_SMALL) {
                due("place(" + square + ", " + piece + ")", x.place(square, piece), false);
            }
            for (int piece : TOO_LARGE_PIECES) {
                due("place(" + square + ", " + piece + ")", x.place(square, piece), false);
            }
        }
        due("neither the one nor the other", x.place(32, 5), false);
        due("neither the one nor the other", x.place(-1, -1), false);
        dueBoard("refused", x, 0, 2, 31, 4);
        due("side", x.side(), 1);
    }

    private static void placeManInLastRow() {
        begin("Promise 2", "or a man would stand in the last row it can go to");
        for (int i = 0; i < 4; i++) {
            DraughtsBoard x = board(1, 28 + i, 4, i, 2);
            due("man of side 0 on " + (28 + i), x.place(28 + i, 1), false);
            due("man of side 1 on " + i, x.place(i, 3), false);
            dueBoard("refused", x, 28 + i, 4, i, 2);
            due("side", x.side(), 1);
            due("man of side 0 on " + (24 + i), x.place(24 + i, 1), true);
            due("man of side 1 on " + (4 + i), x.place(4 + i, 3), true);
            due("man of side 1 on " + (28 + i), x.place(28 + i, 3), true);
            due("man of side 0 on " + i, x.place(i, 1), true);
            dueBoard("not refused", x, 24 + i, 1, 4 + i, 3, 28 + i, 3, i, 1);
        }
    }

    private static void placeRefusedKeepsMoves() {
        begin("Promise 2", "false, changing nothing");
        int[][] refused = {{-1, 0}, {32, 0}, {5, -1}, {5, 5}, {28, 1}, {31, 1}, {0, 3}, {3, 3}};
        for (int[] call : refused) {
            DraughtsBoard x = board(0, 12, 1, 19, 3);
            due("play", x.play(0), 0);
            due("place(" + call[0] + ", " + call[1] + ")", x.place(call[0], call[1]), false);
            due("a move played before can still be taken back", x.back(), true);
            dueBoard("back", x, 12, 1, 19, 3);
            due("side", x.side(), 0);
        }
    }

    private static void placeForgetsMoves() {
        begin("Promise 2", "Moves played before can't be taken back any more.");
        int[][] accepted = {{0, 0}, {16, 1}, {16, 0}, {31, 4}, {0, 2}, {19, 3}};
        for (int[] call : accepted) {
            DraughtsBoard x = board(0, 12, 1, 19, 3);
            due("play", x.play(0), 0);
            due("play", x.play(0), 0);
            due("place(" + call[0] + ", " + call[1] + ")", x.place(call[0], call[1]), true);
            due("back", x.back(), false);
            due("side after it", x.side(), 0);
            due("at after it", x.at(call[0]), call[1]);
        }
        DraughtsBoard x = board(0, 28, 2, 3, 4);
        due("play", x.play(0), 0);
        due("place", x.place(12, 0), true);
        due("play after place", x.play(0), 0);
        due("back of the move after place", x.back(), true);
        due("back of the one before", x.back(), false);
        dueBoard("the one before stays", x, 24, 2, 3, 4);
    }

    private static void dueBeginning(String what, DraughtsBoard x) {
        for (int square = 0; square < 32; square++) {
            due(what + ": at(" + square + ")", x.at(square), square <= 11 ? 1 : square >= 20 ? 3 : 0);
        }
        due(what + ": side", x.side(), 0);
    }

    private static void startOverAFullBoard() {
        begin("Promise 3", "men of side 0 on the squares 0 .. 11, men of side 1 on 20 .. 31, side 0 to move");
        dueBeginning("of a new object", started());
        for (int king = 2; king <= 4; king += 2) {
            DraughtsBoard x = full(1, king);
            x.start();
            dueBeginning("of a full board", x);
        }
        DraughtsBoard x = started();
        x.start();
        dueBeginning("twice", x);
    }

    private static void startForgetsMoves() {
        begin("Promise 3", "Moves played before can't be taken back any more.");
        DraughtsBoard x = started();
        due("play", x.play(0), 0);
        x.start();
        due("back", x.back(), false);
        dueBeginning("after back", x);
        due("play", x.play(6), 0);
        due("back of the move after start", x.back(), true);
        due("back before start", x.back(), false);
        dueBeginning("after back", x);
    }

    private static void turnToAnySide() {
        begin("Promise 4", "Lets a side be to move and answers true");
        for (int from = 0; from <= 1; from++) {
            for (int to = 0; to <= 1; to++) {
                DraughtsBoard x = board(from, 12, 1, 19, 4);
                due("turn(" + to + ") from " + from, x.turn(to), true);
                due("side", x.side(), to);
                dueBoard("turn leaves the board", x, 12, 1, 19, 4);
            }
        }
    }

    private static void turnToNoSide() {
        begin("Promise 4", "false when it is not 0 or 1");
        for (int side = 0; side <= 1; side++) {
            DraughtsBoard x = board(side, 12, 1, 19, 4);
            for (int no : TOO_SMALL) {
                due("turn(" + no + ")", x.turn(no), false);
                due("side", x.side(), side);
            }
            for (int no : new int[] {2, 3, 4, 1 << 8, 1 << 16, (1 << 16) + 1, Integer.MAX_VALUE}) {
                due("turn(" + no + ")", x.turn(no), false);
                due("side", x.side(), side);
            }
            dueBoard("refused", x, 12, 1, 19, 4);
        }
    }

    private static void turnForgetsMoves() {
        begin("Promise 4", "Moves played before can't be taken back any more.");
        for (int to = 0; to <= 1; to++) {
            DraughtsBoard x = board(0, 12, 1, 19, 3);
            due("play", x.play(0), 0);
            due("turn(" + to + ")", x.turn(to), true);
            due("back", x.back(), false);
            due("side", x.side(), to);
            dueBoard("back", x, 16, 1, 19, 3);
            due("play after turn", x.play(0), 0);
            due("back of the move after turn", x.back(), true);
            due("back before turn", x.back(), false);
            due("side", x.side(), to);
            dueBoard("back", x, 16, 1, 19, 3);
        }
    }

    private static void sideToMove() {
        begin("Promise 5", "The side to move.");
        due("an empty board", board(1).side(), 1);
        DraughtsBoard x = board(1, 12, 1);
        due("a side without moves is to move all the same", x.side(), 1);
        x = board(0, 9, 1, 14, 3);
        due("the last piece is taken", x.play(0), 1);
        due("its side is to move then", x.side(), 1);
    }

    private static void atTheFirstAndTheLastSquare() {
        begin("Promise 6", "What is on a square");
        DraughtsBoard x = board(0, 0, 1, 31, 3, 3, 2, 28, 4);
        due("at(0)", x.at(0), 1);
        due("at(31)", x.at(31), 3);
        due("at(3)", x.at(3), 2);
        due("at(28)", x.at(28), 4);
        due("at(1)", x.at(1), 0);
        due("at(30)", x.at(30), 0);
    }

    private static void atNoSquare() {
        begin("Promise 6", "BAD when there is no such square.");
        for (DraughtsBoard x : new DraughtsBoard[] {new DraughtsBoard(), started(), full(0, 2)}) {
            due("plays, so that there is more inside than the board", x.plays(3) >= 0, true);
            for (int square : TOO_SMALL) {
                due("at(" + square + ")", x.at(square), BAD);
            }
            for (int square : TOO_LARGE_SQUARES) {
                due("at(" + square + ")", x.at(square), BAD);
            }
        }
    }

    private static void countOfEmptyAndFull() {
        begin("Promise 7", "The number of pieces of a kind (1 to 4)");
        for (int piece = 1; piece <= 4; piece++) {
            due("empty: count(" + piece + ")", new DraughtsBoard().count(piece), 0);
            due("full of 2: count(" + piece + ")", full(0, 2).count(piece), piece == 2 ? 32 : 0);
            due("full of 4: count(" + piece + ")", full(0, 4).count(piece), piece == 4 ? 32 : 0);
            due("the beginning: count(" + piece + ")", started().count(piece), piece % 2 == 1 ? 12 : 0);
            DraughtsBoard x = board(0);
            for (int i = 0; i < 28; i++) {
                due("place", x.place(piece == 3 ? 4 + i : i, piece), true);
            }
            due("28 of them: count(" + piece + ")", x.count(piece), 28);
        }
        DraughtsBoard x = board(0, 0, 1, 31, 3, 1, 2, 30, 4);
        for (int piece = 1; piece <= 4; piece++) {
            due("one of each: count(" + piece + ")", x.count(piece), 1);
        }
    }

    private static void countOfNoKind() {
        begin("Promise 7", "BAD when there is no such kind.");
        for (DraughtsBoard x : new DraughtsBoard[] {new DraughtsBoard(), started(), full(0, 2)}) {
            due("count(0)", x.count(0), BAD);
            for (int piece : TOO_SMALL) {
                due("count(" + piece + ")", x.count(piece), BAD);
            }
            for (int piece : TOO_LARGE_PIECES) {
                due("count(" + piece + ")", x.count(piece), BAD);
            }
        }
    }

    private static DraughtsBoard[] boardsWithoutMoves() {
        return new DraughtsBoard[] {
            new DraughtsBoard(), board(1), full(0, 2), full(0, 4), full(1, 2), full(1, 4),
            board(0, 12, 3, 19, 4), board(1, 12, 1, 19, 2),
            board(0, 12, 1, 16, 3, 21, 3), board(1, 19, 3, 15, 1, 10, 2),
        };
    }

    private static void movesNoneAndMany() {
        begin("Promise 8", "The number of moves of the side to move.");
        DraughtsBoard[] boards = boardsWithoutMoves();
        for (int i = 0; i < boards.length; i++) {
            due("board " + i + " without moves", boards[i].moves(), 0);
        }
        // In rows 1, 3 and 5 one king has two steps and three have four; in row 7 half as many.
        DraughtsBoard x = board(0);
        for (int square = 0; square < 32; square++) {
            due("place", x.place(square, row(square) % 2 == 1 ? 2 : 0), true);
        }
        due("four rows of kings", x.moves(), 3 * 14 + 7);
        due("the last of their moves", x.path(48, 0), 31);
        due("goes there", x.path(48, 1), 27);
        due("and no more", x.path(49, 0), BAD);
        x = board(0, 12, 1, 19, 3, 18, 4);
        due("of side 0 alone", x.moves(), 1);
        due("turn", x.turn(1), true);
        due("of side 1 alone", x.moves(), 5);
    }

    private static void mustJumpOnlyWhenItCan() {
        begin("Promise 9", "Whether the side to move can jump.");
        DraughtsBoard[] boards = boardsWithoutMoves();
        for (int i = 0; i < boards.length; i++) {
            due("board " + i + " without moves", boards[i].mustJump(), false);
        }
        DraughtsBoard x = board(0, 9, 1, 14, 3);
        due("it can", x.mustJump(), true);
        due("play", x.play(0), 1);
        due("none is left to jump", x.mustJump(), false);
        due("back", x.back(), true);
        due("it can again", x.mustJump(), true);
        due("only the other side can", board(1, 5, 1, 9, 3, 0, 1, 1, 1, 4, 1).mustJump(), false);
        due("steps alone", started().mustJump(), false);
        due("only the last of its pieces can", board(0, 0, 1, 1, 1, 31, 2, 26, 3).mustJump(), true);
    }

    private static void pathFirstAndLast() {
        begin("Promise 10", "The square at place i (0 where it begins) of the path of move number k");
        DraughtsBoard x = started();
        due("path(0, 0)", x.path(0, 0), 8);
        due("path(0, 1)", x.path(0, 1), 12);
        due("path(6, 0)", x.path(6, 0), 11);
        due("path(6, 1)", x.path(6, 1), 15);
        x = nineMen();
        due("path(0, 0) of the longest", x.path(0, 0), 0);
        due("path(0, 9) of the longest", x.path(0, 9), 27);
        due("path(8, 3) of the shortest", x.path(8, 3), 27);
    }

    private static void pathOfNoMove() {
        begin("Promise 10", "BAD when there is none.");
        DraughtsBoard x = started();
        due("plays, so that there are more moves inside", x.plays(3), 302);
        for (int i = 0; i < 3; i++) {
            due("path(7, " + i + ")", x.path(7, i), BAD);
            due("path(8, " + i + ")", x.path(8, i), BAD);
            due("path(512, " + i + ")", x.path(512, i), BAD);
            due("path(greatest, " + i + ")", x.path(Integer.MAX_VALUE, i), BAD);
            for (int k : TOO_SMALL) {
                due("path(" + k + ", " + i + ")", x.path(k, i), BAD);
            }
        }
        // Numbers whose product with a path's greatest length wraps around to a small one.
        for (int k : new int[] {1 << 30, 1 << 31, 429496730, 858993460, 1717986919, -429496729}) {
            due("path(" + k + ", 0)", x.path(k, 0), BAD);
        }
        DraughtsBoard[] boards = boardsWithoutMoves();
        for (int i = 0; i < boards.length; i++) {
            due("board " + i + " without moves: path(0, 0)", boards[i].path(0, 0), BAD);
        }
    }

    private static void pathAtNoPlace() {
        begin("Promise 10", "BAD when there is none.");
        DraughtsBoard x = started();
        for (int k = 0; k < 7; k++) {
            due("path(" + k + ", 2)", x.path(k, 2), BAD);
            due("path(" + k + ", 10)", x.path(k, 10), BAD);
            due("path(" + k + ", greatest)", x.path(k, Integer.MAX_VALUE), BAD);
            for (int i : TOO_SMALL) {
                due("path(" + k + ", " + i + ")", x.path(k, i), BAD);
            }
        }
        x = nineMen();
        due("longest path(0, 10)", x.path(0, 10), BAD);
        due("longest path(0, 11)", x.path(0, 11), BAD);
        due("shortest path(8, 4)", x.path(8, 4), BAD);
        due("neither move nor place", x.path(9, 10), BAD);
        due("neither move nor place", x.path(-1, -1), BAD);
    }

    private static void lengthShortestAndLongest() {
        begin("Promise 11", "The number of squares of the path of move number k");
        due("a step", started().length(0), 2);
        due("the last step", started().length(6), 2);
        due("one jump", board(0, 9, 1, 14, 3).length(0), 2);
        due("nine jumps", nineMen().length(0), 10);
        due("three jumps", nineMen().length(8), 4);
        due("a circle counts its beginning twice", board(0, 9, 2, 13, 3, 14, 3, 21, 3, 22, 3).length(0), 5);
    }

    private static void lengthOfNoMove() {
        begin("Promise 11", "BAD when there is none.");
        DraughtsBoard x = started();
        due("plays, so that there are more moves inside", x.plays(3), 302);
        for (int k : TOO_SMALL) {
            due("length(" + k + ")", x.length(k), BAD);
        }
        for (int k : new int[] {7, 8, 512, 1024, 1 << 16, Integer.MAX_VALUE}) {
            due("length(" + k + ")", x.length(k), BAD);
        }
        DraughtsBoard[] boards = boardsWithoutMoves();
        for (int i = 0; i < boards.length; i++) {
            due("board " + i + " without moves: length(0)", boards[i].length(0), BAD);
        }
    }

    private static void playFirstAndLastMove() {
        begin("Promise 12", "Plays move number k; the other side is to move then.");
        DraughtsBoard x = board(0, 0, 2, 31, 2, 12, 3);
        due("the first", x.play(0), 0);
        dueBoard("the first", x, 4, 2, 31, 2, 12, 3);
        due("side", x.side(), 1);
        x = board(0, 0, 2, 31, 2, 12, 3);
        due("the last", x.play(3), 0);
        dueBoard("the last", x, 0, 2, 27, 2, 12, 3);
        due("side", x.side(), 1);
        due("side 1 plays its last", x.play(0), 0);
        dueBoard("side 1 played", x, 0, 2, 27, 2, 8, 3);
        due("side", x.side(), 0);
    }

    private static void playTakesNoneToNine() {
        begin("Promise 12", "Answers the number of pieces taken off");
        due("a step", started().play(0), 0);
        due("one", board(0, 9, 1, 14, 3).play(0), 1);
        due("two", board(0, 1, 1, 6, 3, 15, 3).play(0), 2);
        due("a circle", board(0, 9, 2, 13, 3, 14, 3, 21, 3, 22, 3).play(1), 4);
        DraughtsBoard x = nineMen();
        due("three", x.play(8), 3);
        due("six are left", x.count(1), 6);
        due("back", x.back(), true);
        due("nine", x.play(7), 9);
        due("none is left", x.count(1), 0);
    }

    private static void playNoMove() {
        begin("Promise 12", "BAD, changing nothing, when there is none.");
        int[] none = {-1, -2, 1, 2, 3, 512, 1 << 16, Integer.MIN_VALUE, Integer.MAX_VALUE};
        for (int k : none) {
            DraughtsBoard x = board(0, 12, 1, 19, 3);
            due("play(0)", x.play(0), 0);
            due("play(" + k + ")", x.play(k), BAD);
            dueBoard("refused", x, 16, 1, 19, 3);
            due("side", x.side(), 1);
            due("the move before is taken back", x.back(), true);
            dueBoard("back", x, 12, 1, 19, 3);
            due("the refused one was none", x.back(), false);
        }
        DraughtsBoard[] boards = boardsWithoutMoves();
        for (int i = 0; i < boards.length; i++) {
            int side = boards[i].side();
            due("board " + i + " without moves: play(0)", boards[i].play(0), BAD);
            due("board " + i + ": side", boards[i].side(), side);
            due("board " + i + ": back", boards[i].back(), false);
        }
        DraughtsBoard x = twoKings();
        playRounds(x, 20);
        for (int k : none) {
            due("play(" + k + ") after 20 moves", x.play(k), BAD);
        }
        dueBacks("20 moves and refused ones", x, 20);
    }

    private static void backOfNothing() {
        begin("Promise 13", "false when there is none that is remembered");
        DraughtsBoard x = new DraughtsBoard();
        due("new", x.back(), false);
        dueBoard("new", x);
        due("side", x.side(), 0);
        x = board(1, 12, 1, 19, 3);
        due("set up", x.back(), false);
        due("again", x.back(), false);
        dueBoard("set up", x, 12, 1, 19, 3);
        due("side", x.side(), 1);
        due("play", x.play(0), 0);
        due("back", x.back(), true);
        due("all taken back", x.back(), false);
        dueBoard("all taken back", x, 12, 1, 19, 3);
        due("side", x.side(), 1);
    }

    private static void backSkipsWhatWasTakenBack() {
        begin("Promise 13", "Takes the last move played, that was not taken back, back, and answers true");
        DraughtsBoard x = board(0, 24, 1, 7, 3, 12, 3);
        due("a man is crowned", x.play(0), 0);
        due("a man of side 1 is crowned", x.play(1), 0);
        dueBoard("played", x, 28, 2, 3, 4, 12, 3);
        due("back", x.back(), true);
        dueBoard("the crown of side 1 is taken back", x, 28, 2, 7, 3, 12, 3);
        due("side", x.side(), 1);
        due("another move", x.play(2), 0);
        dueBoard("another move", x, 28, 2, 7, 3, 8, 3);
        due("back of it", x.back(), true);
        dueBoard("back of it", x, 28, 2, 7, 3, 12, 3);
        due("back of the one before both", x.back(), true);
        dueBoard("back of the one before both", x, 24, 1, 7, 3, 12, 3);
        due("side", x.side(), 0);
        due("no more", x.back(), false);
        x = nineMen();
        due("nine men", x.play(0), 9);
        due("are back", x.back(), true);
        due("all of them", x.count(1), 9);
        due("and the king", x.at(0), 4);
        due("side", x.side(), 1);
    }

    // Two kings, each in a corner of its own: made with three calls, side 0 to move.
    private static DraughtsBoard twoKings() {
        return board(0, 28, 2, 3, 4);
    }

    // Each king goes out of its corner and in again, four moves for one round; one call for each move.
    private static void playRounds(DraughtsBoard x, int times) {
        int[] round = {0, 0, 2, 1};
        for (int i = 0; i < times; i++) {
            due("move " + i + " of two kings", x.play(round[i % 4]), 0);
        }
    }

    // Where the two kings stand after so many moves of playRounds, and who is to move then.
    private static void dueRound(String what, DraughtsBoard x, int times) {
        int phase = times % 4;
        int kingOfSide0 = phase == 1 || phase == 2 ? 24 : 28;
        int kingOfSide1 = phase == 2 || phase == 3 ? 7 : 3;
        due(what + ": side", x.side(), times % 2);
        dueBoard(what, x, kingOfSide0, 2, kingOfSide1, 4);
    }

    private static void dueBacks(String what, DraughtsBoard x, int times) {
        for (int i = 0; i < times; i++) {
            due(what + ": back number " + (i + 1), x.back(), true);
        }
        due(what + ": back after " + times, x.back(), false);
    }

    private static void backOfTwentyOnly() {
        begin("Promise 13", "only the last 20 moves played can be taken back");
        for (int played : new int[] {1, 2, 18, 19, 20, 21, 22, 23, 39, 40, 41, 60, 61, 100}) {
            DraughtsBoard x = twoKings();
            playRounds(x, played);
            int remembered = played < 20 ? played : 20;
            dueBacks(played + " moves", x, remembered);
            dueRound(played + " moves", x, played - remembered);
        }
        for (int played = 1; played <= 41; played += 4) {
            DraughtsBoard x = twoKings();
            playRounds(x, played);
            for (int back = 1; back <= 4 && back <= played; back++) {
                due("back " + back + " of " + played, x.back(), true);
                dueRound("back " + back + " of " + played, x, played - back);
            }
        }
    }

    private static void backWithTheMemoryRoundItsEnd() {
        begin("Promise 13", "Takes the last move played, that was not taken back, back");
        DraughtsBoard x = twoKings();
        playRounds(x, 24);
        for (int i = 0; i < 4; i++) {
            due("back of four", x.back(), true);
        }
        playRounds(x, 4);
        dueBacks("24 moves, 4 back, 4 again", x, 20);
        dueRound("24 moves, 4 back, 4 again", x, 4);
        x = twoKings();
        playRounds(x, 24);
        for (int i = 0; i < 8; i++) {
            due("back of eight", x.back(), true);
        }
        playRounds(x, 4);
        dueBacks("what was forgotten stays forgotten", x, 16);
        dueRound("what was forgotten stays forgotten", x, 4);
        x = twoKings();
        playRounds(x, 20);
        dueBacks("all 20", x, 20);
        playRounds(x, 21);
        dueBacks("and 21 more", x, 20);
        dueRound("and 21 more", x, 1);
        x = twoKings();
        playRounds(x, 28);
        due("turn", x.turn(0), true);
        playRounds(x, 8);
        dueBacks("moves after a turn", x, 8);
        dueRound("moves after a turn", x, 0);
    }

    private static void playsOfNoMoves() {
        begin("Promise 14", "1 for d = 0");
        DraughtsBoard[] boards = boardsWithoutMoves();
        for (int i = 0; i < boards.length; i++) {
            due("board " + i + " without moves: plays(0)", boards[i].plays(0), 1);
        }
        due("the beginning", started().plays(0), 1);
    }

    private static void playsThatEndEarly() {
        begin("Promise 14", "a side without moves ends the play, and shorter plays do not count");
        DraughtsBoard[] boards = boardsWithoutMoves();
        for (int i = 0; i < boards.length; i++) {
            for (int d = 1; d <= 3; d++) {
                due("board " + i + " without moves: plays(" + d + ")", boards[i].plays(d), 0);
            }
        }
        DraughtsBoard x = board(0, 9, 1, 14, 3);
        due("ends after one move: plays(1)", x.plays(1), 1);
        due("ends after one move: plays(2)", x.plays(2), 0);
        due("ends after one move: plays(3)", x.plays(3), 0);
        x = board(0, 4, 1, 13, 3);
        due("ends after two moves: plays(2)", x.plays(2), 1);
        due("ends after two moves: plays(3)", x.plays(3), 0);
        // The man on 4 can go to 0 alone, so of the king's four steps the one to 0 ends the play.
        x = board(0, 5, 2, 4, 3);
        due("one way of four ends: plays(1)", x.plays(1), 4);
        due("one way of four ends: plays(2)", x.plays(2), 3);
        due("one way of four ends: plays(3)", x.plays(3), 2 + 4 + 4);
    }

    private static void playsOfNoDepth() {
        begin("Promise 14", "BAD when d is not 0 .. 3.");
        for (DraughtsBoard x : new DraughtsBoard[] {new DraughtsBoard(), started(), full(0, 2), twoKings()}) {
            for (int d : TOO_SMALL) {
                due("plays(" + d + ")", x.plays(d), BAD);
            }
            for (int d : new int[] {4, 5, 1 << 8, 1 << 16, Integer.MAX_VALUE}) {
                due("plays(" + d + ")", x.plays(d), BAD);
            }
        }
        DraughtsBoard x = started();
        due("plays(3)", x.plays(3), 302);
    }

    private static void playsChangesNothing() {
        begin("Promise 14", "The number of ways in which the play can go on for d moves");
        DraughtsBoard x = board(0, 21, 1, 25, 3, 10, 3, 6, 2, 31, 4);
        due("play", x.play(1), 1);
        for (int d = -1; d <= 4; d++) {
            due("plays(" + d + ") answers", x.plays(d) >= BAD, true);
            dueBoard("plays(" + d + ")", x, 30, 2, 10, 3, 6, 2, 31, 4);
            due("plays(" + d + "): side", x.side(), 1);
        }
        due("back", x.back(), true);
        dueBoard("back", x, 21, 1, 25, 3, 10, 3, 6, 2, 31, 4);
        due("no more", x.back(), false);
    }

    private static void mostTakenNone() {
        begin("Promise 15", "0 when it has none.");
        DraughtsBoard[] boards = boardsWithoutMoves();
        for (int i = 0; i < boards.length; i++) {
            due("board " + i + " without moves", boards[i].mostTaken(), 0);
        }
        due("steps alone", started().mostTaken(), 0);
        due("the other side's jumps do not count", board(1, 5, 1, 9, 3, 0, 1, 1, 1, 4, 1).mostTaken(), 0);
    }

    private static void mostTakenGreatest() {
        begin("Promise 15", "The greatest number of pieces that a move of the side to move takes off");
        due("one", board(0, 9, 1, 14, 3).mostTaken(), 1);
        due("nine", nineMen().mostTaken(), 9);
        due("the first takes most", board(0, 1, 1, 6, 3, 14, 3, 15, 3, 21, 3).mostTaken(), 3);
        due("the last takes most", board(0, 1, 1, 6, 3, 14, 3, 15, 3, 23, 3).mostTaken(), 3);
        due("a circle", board(0, 9, 2, 13, 3, 14, 3, 21, 3, 22, 3).mostTaken(), 4);
    }

    private static void movableFirstAndLastBit() {
        begin("Promise 16", "The squares of the side to move from which a move can begin: bit s for square s.");
        for (int square = 0; square < 32; square++) {
            due("king of side 0 on " + square, board(0, square, 2).movable(), 1 << square);
            due("king of side 1 on " + square, board(1, square, 4).movable(), 1 << square);
        }
        due("first and last", board(0, 0, 2, 31, 2).movable(), 1 << 31 | 1);
        due("the last bit makes it negative", board(0, 31, 2).movable(), Integer.MIN_VALUE);
        due("with four moves still one bit", board(0, 17, 2).movable(), 1 << 17);
        due("only those that jump", board(0, 0, 2, 31, 2, 26, 3, 4, 1).movable(), 1 << 31);
        DraughtsBoard x = full(0, 2);
        due("one square made empty", x.place(17, 0), true);
        due("its four neighbours", x.movable(), 1 << 13 | 1 << 14 | 1 << 21 | 1 << 22);
    }

    private static void movableNone() {
        begin("Promise 16", "from which a move can begin");
        DraughtsBoard[] boards = boardsWithoutMoves();
        for (int i = 0; i < boards.length; i++) {
            due("board " + i + " without moves", boards[i].movable(), 0);
        }
        due("the other side's squares do not count", board(1, 0, 2, 31, 3).movable(), 1 << 31);
    }

    private static void refusedTurnChangesNothing() {
        begin("Promise 17", "a refused turn (side neither 0 nor 1) changes nothing: moves played before can still be "
                + "taken back.");
        for (int no : new int[] {-1, 2, 3, -2, Integer.MIN_VALUE, Integer.MAX_VALUE}) {
            DraughtsBoard x = twoKings();
            playRounds(x, 21);
            due("turn(" + no + ")", x.turn(no), false);
            dueRound("turn(" + no + ")", x, 21);
            dueBacks("turn(" + no + ")", x, 20);
            dueRound("turn(" + no + ") and back", x, 1);
            due("turn(" + no + ") between", x.turn(no), false);
            due("side", x.side(), 1);
        }
    }
}

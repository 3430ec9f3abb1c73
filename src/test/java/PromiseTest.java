// Each promise of the document on positions small enough to be checked by hand:
// ordinary inputs, the edges that the document names, and wrong inputs.
public final class PromiseTest {
    private static final int BAD = DraughtsBoard.BAD;
    private static final int[] NO_SQUARES = {-1, 32, 33, 64, Integer.MIN_VALUE, Integer.MAX_VALUE};

    private static int wrong = 0;

    public static void main(String[] args) {
        newObject();
        place();
        placeAndTakingBack();
        start();
        turn();
        side();
        at();
        count();
        movesThatAreSteps();
        movesThatAreJumps();
        mustJump();
        pathsInOrder();
        pathsInCircles();
        pathsThatAreNot();
        length();
        playSteps();
        playJumps();
        playCrowns();
        playRefused();
        back();
        backLimit();
        plays();
        playsThatEnd();
        mostTaken();
        movable();
        refusedTurn();
        System.out.println(wrong == 0 ? "all promises hold" : wrong + " answers are not as due");
        if (wrong != 0) {
            System.exit(1);
        }
    }

    private static void due(String what, long got, long want) {
        if (got != want) {
            wrong++;
            System.out.println(what + ": answered " + got + ", due is " + want);
        }
    }

    private static void due(String what, boolean got, boolean want) {
        due(what, got ? 1 : 0, want ? 1 : 0);
    }

    // A board with the side to move and then pairs of a square and a piece.
    private static DraughtsBoard board(int side, int... squaresAndPieces) {
        DraughtsBoard x = new DraughtsBoard();
        for (int i = 0; i < squaresAndPieces.length; i += 2) {
            due("place for a position", x.place(squaresAndPieces[i], squaresAndPieces[i + 1]), true);
        }
        due("turn for a position", x.turn(side), true);
        return x;
    }

    private static void duePath(String what, DraughtsBoard x, int k, int... squares) {
        due(what + ": length(" + k + ")", x.length(k), squares.length);
        for (int i = 0; i < squares.length; i++) {
            due(what + ": path(" + k + ", " + i + ")", x.path(k, i), squares[i]);
        }
        due(what + ": path behind the end of " + k, x.path(k, squares.length), BAD);
    }

    private static void dueBoard(String what, DraughtsBoard x, int... squaresAndPieces) {
        int[] want = new int[32];
        for (int i = 0; i < squaresAndPieces.length; i += 2) {
            want[squaresAndPieces[i]] = squaresAndPieces[i + 1];
        }
        for (int square = 0; square < 32; square++) {
            due(what + ": at(" + square + ")", x.at(square), want[square]);
        }
    }

    // Promise 1
    private static void newObject() {
        DraughtsBoard x = new DraughtsBoard();
        due("BAD", DraughtsBoard.BAD, -1);
        dueBoard("1 new", x);
        due("1 new: side", x.side(), 0);
        due("1 new: moves", x.moves(), 0);
        due("1 new: back", x.back(), false);
        DraughtsBoard y = new DraughtsBoard();
        x.start();
        dueBoard("1 another object", y);
    }

    // Promise 2
    private static void place() {
        for (int square = 0; square < 32; square++) {
            for (int piece = 0; piece <= 4; piece++) {
                boolean allowed = !(piece == 1 && square >= 28) && !(piece == 3 && square <= 3);
                int before = 4 - piece == 1 || 4 - piece == 3 ? 2 : 4 - piece;
                DraughtsBoard x = board(1, square, before);
                due("2 place(" + square + ", " + piece + ")", x.place(square, piece), allowed);
                dueBoard("2 after place", x, square, allowed ? piece : before);
                due("2 place keeps the side", x.side(), 1);
            }
        }
        DraughtsBoard x = board(0, 0, 2, 31, 4);
        for (int square : NO_SQUARES) {
            due("2 place(" + square + ", 0)", x.place(square, 0), false);
            due("2 place(" + square + ", 2)", x.place(square, 2), false);
        }
        for (int piece : new int[] {-1, 5, 6, Integer.MIN_VALUE, Integer.MAX_VALUE}) {
            due("2 place(0, " + piece + ")", x.place(0, piece), false);
            due("2 place(12, " + piece + ")", x.place(12, piece), false);
        }
        dueBoard("2 after refused places", x, 0, 2, 31, 4);
    }

    // Promise 2: what is put down makes played moves lasting, what is refused does not.
    private static void placeAndTakingBack() {
        DraughtsBoard x = board(0, 4, 1, 27, 3);
        due("2 play", x.play(0), 0);
        due("2 place refused", x.place(28, 1), false);
        due("2 place refused", x.place(0, 3), false);
        due("2 place refused", x.place(32, 0), false);
        due("2 place refused", x.place(5, 5), false);
        due("2 back after refused places", x.back(), true);
        due("2 play", x.play(0), 0);
        due("2 play", x.play(0), 0);
        due("2 place of nothing on an empty square", x.place(16, 0), true);
        due("2 back after place", x.back(), false);
        due("2 side after place", x.side(), 0);
        due("2 play", x.play(0), 0);
        due("2 back of the move after place", x.back(), true);
        due("2 back before place", x.back(), false);
    }

    // Promise 3
    private static void start() {
        DraughtsBoard x = board(0, 14, 2, 30, 4, 9, 3);
        due("3 play before start", x.play(0) >= 0, true);
        due("3 side before start", x.side(), 1);
        x.start();
        for (int square = 0; square < 32; square++) {
            due("3 at(" + square + ")", x.at(square), square <= 11 ? 1 : square >= 20 ? 3 : 0);
        }
        due("3 side", x.side(), 0);
        due("3 back after start", x.back(), false);
    }

    // Promise 4
    private static void turn() {
        DraughtsBoard x = board(0, 12, 2, 19, 4);
        due("4 turn(1)", x.turn(1), true);
        due("4 side", x.side(), 1);
        due("4 turn(1) again", x.turn(1), true);
        due("4 side", x.side(), 1);
        for (int side : new int[] {-1, 2, 3, Integer.MIN_VALUE, Integer.MAX_VALUE}) {
            due("4 turn(" + side + ")", x.turn(side), false);
            due("4 side after it", x.side(), 1);
        }
        due("4 turn(0)", x.turn(0), true);
        due("4 side", x.side(), 0);
        dueBoard("4 after turns", x, 12, 2, 19, 4);
        due("4 play", x.play(0), 0);
        due("4 turn to the side that is to move", x.turn(1), true);
        due("4 back after turn", x.back(), false);
        due("4 play", x.play(0), 0);
        due("4 turn to the other side", x.turn(1), true);
        due("4 back after turn", x.back(), false);
    }

    // Promise 5
    private static void side() {
        DraughtsBoard x = new DraughtsBoard();
        x.start();
        due("5 start", x.side(), 0);
        due("5 play", x.play(0), 0);
        due("5 after one move", x.side(), 1);
        due("5 play", x.play(0), 0);
        due("5 after two moves", x.side(), 0);
        due("5 back", x.back(), true);
        due("5 after back", x.side(), 1);
        due("5 no such move", x.play(99), BAD);
        due("5 after a refused move", x.side(), 1);
        due("5 plays", x.plays(3) > 0, true);
        due("5 after plays", x.side(), 1);
    }

    // Promise 6
    private static void at() {
        DraughtsBoard x = board(0, 0, 1, 31, 3, 13, 2, 18, 4);
        dueBoard("6 at", x, 0, 1, 31, 3, 13, 2, 18, 4);
        for (int square : NO_SQUARES) {
            due("6 at(" + square + ")", x.at(square), BAD);
        }
    }

    // Promise 7
    private static void count() {
        DraughtsBoard x = board(0, 0, 1, 5, 1, 6, 1, 7, 1, 8, 2, 9, 2, 31, 3, 30, 3, 29, 3, 27, 4);
        due("7 count(1)", x.count(1), 4);
        due("7 count(2)", x.count(2), 2);
        due("7 count(3)", x.count(3), 3);
        due("7 count(4)", x.count(4), 1);
        for (int piece : new int[] {0, 5, -1, Integer.MIN_VALUE, Integer.MAX_VALUE}) {
            due("7 count(" + piece + ")", x.count(piece), BAD);
        }
        for (int square = 0; square < 32; square++) {
            x.place(square, 4);
        }
        due("7 count(4) of a full board", x.count(4), 32);
        due("7 count(1) of it", x.count(1), 0);
    }

    // Promise 8
    private static void movesThatAreSteps() {
        due("8 man of side 0", board(0, 17, 1).moves(), 2);
        due("8 man of side 1", board(1, 17, 3).moves(), 2);
        due("8 king", board(0, 17, 2).moves(), 4);
        due("8 king of side 1", board(1, 17, 4).moves(), 4);
        due("8 man at the left side", board(0, 12, 1).moves(), 1);
        due("8 man at the right side", board(1, 19, 3).moves(), 1);
        due("8 king in the corner", board(0, 28, 2).moves(), 1);
        due("8 king in the other corner", board(0, 3, 2).moves(), 1);
        due("8 king in row 0", board(1, 1, 4).moves(), 2);
        due("8 king in row 7", board(1, 30, 4).moves(), 2);
        due("8 only the side to move counts", board(1, 17, 1).moves(), 0);
        due("8 men shut in", board(0, 3, 1, 7, 1, 11, 1, 10, 3, 14, 3, 15, 3, 18, 3).moves(), 0);
        DraughtsBoard x = new DraughtsBoard();
        x.start();
        due("8 the beginning", x.moves(), 7);
        due("8 turn", x.turn(1), true);
        due("8 the beginning for side 1", x.moves(), 7);
    }

    // Promise 8: jumps
    private static void movesThatAreJumps() {
        due("8 a jump rules steps out", board(0, 9, 1, 14, 3, 0, 1).moves(), 1);
        due("8 no jump over one's own", board(0, 9, 1, 14, 1).moves(), 3);
        due("8 no jump over one's own king", board(1, 18, 3, 14, 4).moves(), 4);
        due("8 no jump onto one's own", board(0, 9, 1, 14, 3, 18, 2).moves(), 4);
        due("8 no jump onto another", board(0, 9, 1, 14, 3, 18, 4).moves(), 1);
        due("8 no jump off the left", board(0, 5, 1, 8, 3).moves(), 1);
        due("8 no jump off the right", board(0, 15, 1, 19, 3).moves(), 1);
        due("8 no jump off row 7", board(0, 24, 2, 28, 3, 29, 3).moves(), 2);
        due("8 no jump off row 0", board(1, 5, 4, 0, 1, 1, 1).moves(), 2);
        due("8 a man of side 0 jumps to greater rows alone", board(0, 17, 1, 14, 3).moves(), 2);
        due("8 a man of side 1 jumps to lesser rows alone", board(1, 17, 3, 22, 1).moves(), 2);
        due("8 a king jumps all ways", board(0, 17, 2, 13, 3, 14, 4, 21, 3, 22, 4).moves(), 4);
        due("8 a shorter row of jumps is no move while it can go on", board(0, 1, 1, 6, 3, 15, 3).moves(), 1);
        due("8 two ways on", board(0, 1, 1, 6, 3, 14, 3, 15, 3).moves(), 2);
    }

    // Promise 9
    private static void mustJump() {
        due("9 empty board", new DraughtsBoard().mustJump(), false);
        due("9 only steps", board(0, 9, 1, 18, 3).mustJump(), false);
        due("9 a jump", board(0, 9, 1, 14, 3).mustJump(), true);
        due("9 a jump of side 1", board(1, 14, 3, 9, 1, 0, 1).mustJump(), true);
        due("9 behind it is no room", board(0, 9, 1, 14, 3, 18, 3).mustJump(), false);
        due("9 a man can't go back", board(0, 17, 1, 14, 3).mustJump(), false);
        due("9 a king can", board(0, 17, 2, 14, 3).mustJump(), true);
        due("9 the other side alone can jump", board(1, 6, 1, 9, 3, 1, 1, 2, 1, 0, 1).mustJump(), false);
    }

    // Promise 10
    private static void pathsInOrder() {
        DraughtsBoard x = board(0, 17, 2, 4, 1);
        due("10 moves", x.moves(), 5);
        duePath("10 man first", x, 0, 4, 8);
        duePath("10 king", x, 1, 17, 13);
        duePath("10 king", x, 2, 17, 14);
        duePath("10 king", x, 3, 17, 21);
        duePath("10 king", x, 4, 17, 22);
        x = board(0, 17, 2, 13, 3, 14, 4, 21, 3, 22, 4);
        duePath("10 jumps", x, 0, 17, 8);
        duePath("10 jumps", x, 1, 17, 10);
        duePath("10 jumps", x, 2, 17, 24);
        duePath("10 jumps", x, 3, 17, 26);
        x = board(0, 1, 1, 6, 3, 14, 3, 15, 3, 21, 3);
        due("10 a tree of jumps", x.moves(), 2);
        duePath("10 a tree of jumps", x, 0, 1, 10, 17, 24);
        duePath("10 a tree of jumps", x, 1, 1, 10, 19);
        x = board(1, 31, 4, 30, 3, 12, 3);
        due("10 side 1", x.moves(), 5);
        duePath("10 side 1", x, 0, 12, 8);
        duePath("10 side 1", x, 1, 30, 25);
        duePath("10 side 1", x, 2, 30, 26);
        duePath("10 side 1", x, 3, 31, 26);
        duePath("10 side 1", x, 4, 31, 27);
    }

    // Promise 10: the square from which a move began may be come to again; no piece is jumped twice.
    private static void pathsInCircles() {
        DraughtsBoard x = board(0, 9, 2, 13, 3, 14, 3, 21, 3, 22, 3);
        due("10 circle", x.moves(), 2);
        duePath("10 circle", x, 0, 9, 16, 25, 18, 9);
        duePath("10 circle", x, 1, 9, 18, 25, 16, 9);
        x.place(5, 4);
        due("10 through the beginning", x.moves(), 3);
        duePath("10 through the beginning", x, 0, 9, 0);
        duePath("10 through the beginning", x, 1, 9, 16, 25, 18, 9, 0);
        duePath("10 through the beginning", x, 2, 9, 18, 25, 16, 9, 0);
        duePath("10 there and not back", board(0, 9, 2, 14, 3), 0, 9, 18);
        x = board(1, 0, 4, 5, 1, 6, 1, 7, 1, 13, 1, 14, 1, 15, 1, 21, 1, 22, 1, 23, 1);
        due("10 nine jumps", x.moves(), 9);
        due("10 nine jumps: the longest", x.mostTaken(), 9);
        duePath("10 nine jumps", x, 0, 0, 9, 2, 11, 18, 9, 16, 25, 18, 27);
        duePath("10 nine jumps", x, 8, 0, 9, 18, 27);
    }

    // Promise 10: wrong inputs
    private static void pathsThatAreNot() {
        DraughtsBoard x = board(0, 12, 1);
        due("10 path(0, 0)", x.path(0, 0), 12);
        due("10 path(0, 1)", x.path(0, 1), 16);
        for (int no : new int[] {-1, 2, 10, 999, Integer.MIN_VALUE, Integer.MAX_VALUE}) {
            due("10 path(0, " + no + ")", x.path(0, no), BAD);
            due("10 path(" + no + ", 0)", x.path(no, 0), BAD);
        }
        due("10 path(1, 0)", x.path(1, 0), BAD);
        due("10 path of an empty board", new DraughtsBoard().path(0, 0), BAD);
    }

    // Promise 11
    private static void length() {
        due("11 a step", board(0, 12, 1).length(0), 2);
        due("11 one jump", board(0, 9, 1, 14, 3).length(0), 2);
        due("11 two jumps", board(0, 1, 1, 6, 3, 15, 3).length(0), 3);
        DraughtsBoard x = board(1, 30, 3, 25, 1, 16, 1, 17, 1, 9, 1);
        due("11 side 1: moves", x.moves(), 2);
        due("11 side 1", x.length(0), 3);
        duePath("11 side 1", x, 0, 30, 21, 12);
        duePath("11 side 1", x, 1, 30, 21, 14, 5);
        for (int no : new int[] {-1, 2, 512, Integer.MIN_VALUE, Integer.MAX_VALUE}) {
            due("11 length(" + no + ")", x.length(no), BAD);
        }
        due("11 length of an empty board", new DraughtsBoard().length(0), BAD);
    }

    // Promise 12
    private static void playSteps() {
        DraughtsBoard x = board(0, 17, 2, 4, 1, 31, 3);
        due("12 play(3)", x.play(3), 0);
        dueBoard("12 step", x, 21, 2, 4, 1, 31, 3);
        due("12 side", x.side(), 1);
        due("12 play(1)", x.play(1), 0);
        dueBoard("12 step of side 1", x, 21, 2, 4, 1, 27, 3);
        due("12 side", x.side(), 0);
    }

    // Promise 12
    private static void playJumps() {
        DraughtsBoard x = board(0, 1, 1, 6, 3, 15, 4, 12, 1, 31, 3);
        due("12 two jumps", x.play(0), 2);
        dueBoard("12 two jumps", x, 19, 1, 12, 1, 31, 3);
        due("12 side", x.side(), 1);
        x = board(0, 9, 2, 13, 3, 14, 4, 21, 3, 22, 3, 30, 3);
        due("12 a circle", x.play(1), 4);
        dueBoard("12 a circle", x, 9, 2, 30, 3);
        x = board(1, 0, 4, 5, 1, 6, 1, 7, 1, 13, 1, 14, 2, 15, 1, 21, 1, 22, 1, 23, 1);
        due("12 nine jumps", x.play(0), 9);
        dueBoard("12 nine jumps", x, 27, 4);
        x = board(0, 27, 2, 31, 4, 23, 4, 14, 3);
        due("12 king jumps back", x.play(0), 2);
        dueBoard("12 king jumps back", x, 9, 2, 31, 4);
    }

    // Promise 12: a man that ends in the last row becomes a king and does not jump on as one.
    private static void playCrowns() {
        DraughtsBoard x = board(0, 24, 1, 5, 3);
        due("12 step to row 7", x.play(1), 0);
        dueBoard("12 step to row 7", x, 29, 2, 5, 3);
        due("12 step to row 0", x.play(1), 0);
        dueBoard("12 step to row 0", x, 29, 2, 1, 4);
        x = board(0, 21, 1, 25, 3, 26, 3);
        duePath("12 jump to row 7", x, 0, 21, 30);
        due("12 jump to row 7", x.play(0), 1);
        dueBoard("12 jump to row 7", x, 30, 2, 26, 3);
        x = board(1, 10, 3, 6, 1, 5, 2);
        duePath("12 jump to row 0", x, 0, 10, 1);
        due("12 jump to row 0", x.play(0), 1);
        dueBoard("12 jump to row 0", x, 1, 4, 5, 2);
        x = board(0, 24, 2);
        due("12 a king stays a king", x.play(3), 0);
        dueBoard("12 a king stays a king", x, 29, 2);
        x = board(1, 31, 3);
        due("12 a man in its own first row stays a man", x.play(0), 0);
        dueBoard("12 a man in its own first row stays a man", x, 26, 3);
    }

    // Promise 12: wrong inputs
    private static void playRefused() {
        DraughtsBoard x = board(0, 12, 1, 19, 3);
        due("12 play", x.play(0), 0);
        for (int no : new int[] {-1, 1, 2, 512, Integer.MIN_VALUE, Integer.MAX_VALUE}) {
            due("12 play(" + no + ")", x.play(no), BAD);
        }
        dueBoard("12 after refused moves", x, 16, 1, 19, 3);
        due("12 side after refused moves", x.side(), 1);
        due("12 back of the move before them", x.back(), true);
        dueBoard("12 back", x, 12, 1, 19, 3);
        due("12 back before it", x.back(), false);
        due("12 empty board", new DraughtsBoard().play(0), BAD);
    }

    // Promise 13
    private static void back() {
        DraughtsBoard x = board(0, 21, 1, 25, 3, 10, 3, 6, 2, 1, 0, 31, 4);
        due("13 moves", x.moves(), 2);
        due("13 a jump that crowns", x.play(1), 1);
        dueBoard("13 played", x, 30, 2, 10, 3, 6, 2, 31, 4);
        due("13 a jump of side 1", x.play(0), 1);
        dueBoard("13 played", x, 30, 2, 1, 4, 31, 4);
        due("13 back", x.back(), true);
        dueBoard("13 back once", x, 30, 2, 10, 3, 6, 2, 31, 4);
        due("13 side", x.side(), 1);
        due("13 back", x.back(), true);
        dueBoard("13 back twice", x, 21, 1, 25, 3, 10, 3, 6, 2, 31, 4);
        due("13 side", x.side(), 0);
        due("13 no more", x.back(), false);
        due("13 side after it", x.side(), 0);
        dueBoard("13 no more", x, 21, 1, 25, 3, 10, 3, 6, 2, 31, 4);
        due("13 moves", x.moves(), 2);
        due("13 play again", x.play(0), 1);
        due("13 back again", x.back(), true);
        due("13 and no more", x.back(), false);
        x = board(0, 9, 2, 13, 3, 14, 4, 21, 3, 22, 3);
        due("13 a circle", x.play(0), 4);
        due("13 back", x.back(), true);
        dueBoard("13 a circle back", x, 9, 2, 13, 3, 14, 4, 21, 3, 22, 3);
    }

    // Two kings, each in a corner of its own.
    private static DraughtsBoard twoKings() {
        return board(0, 28, 2, 3, 4);
    }

    // Each king goes out of its corner and in again, four moves for one round. In a corner there is one move
    // alone; from 24 the way in is move 2, from 7 it is move 1.
    private static void shuttle(DraughtsBoard x, int times) {
        for (int i = 0; i < times; i++) {
            int wayIn = x.side() == 0 ? 2 : 1;
            boolean inCorner = x.side() == 0 ? x.at(28) == 2 : x.at(3) == 4;
            due("13 play in a corner", x.play(inCorner ? 0 : wayIn), 0);
        }
    }

    private static void dueBacks(String what, DraughtsBoard x, int times) {
        for (int i = 0; i < times; i++) {
            due(what + ": back number " + (i + 1), x.back(), true);
        }
        due(what + ": back after " + times, x.back(), false);
    }

    // Promise 13: the last 20
    private static void backLimit() {
        DraughtsBoard x = twoKings();
        shuttle(x, 19);
        dueBacks("13 19 moves", x, 19);
        x = twoKings();
        shuttle(x, 20);
        dueBacks("13 20 moves", x, 20);
        dueBoard("13 20 moves", x, 28, 2, 3, 4);
        x = twoKings();
        shuttle(x, 21);
        dueBacks("13 21 moves", x, 20);
        dueBoard("13 21 moves", x, 24, 2, 3, 4);
        due("13 21 moves: side", x.side(), 1);
        x = twoKings();
        shuttle(x, 63);
        dueBacks("13 63 moves", x, 20);
        dueBoard("13 63 moves", x, 28, 2, 7, 4);
        x = twoKings();
        shuttle(x, 25);
        for (int i = 0; i < 5; i++) {
            due("13 back of five", x.back(), true);
        }
        shuttle(x, 3);
        dueBacks("13 what was forgotten stays so", x, 18);
        shuttle(x, 2);
        dueBacks("13 after them all", x, 2);
    }

    // Promise 14
    private static void plays() {
        DraughtsBoard x = new DraughtsBoard();
        x.start();
        due("14 plays(0)", x.plays(0), 1);
        due("14 plays(1)", x.plays(1), 7);
        due("14 plays(2)", x.plays(2), 49);
        due("14 plays(3)", x.plays(3), 302);
        for (int no : new int[] {-1, 4, 5, Integer.MIN_VALUE, Integer.MAX_VALUE}) {
            due("14 plays(" + no + ")", x.plays(no), BAD);
        }
        due("14 play", x.play(3), 0);
        due("14 plays(1) after a move", x.plays(1), 7);
        due("14 side after plays", x.side(), 1);
        due("14 moves after plays", x.moves(), 7);
        due("14 back after plays", x.back(), true);
        due("14 no more back", x.back(), false);
        x.start();
        x.plays(3);
        for (int square = 0; square < 32; square++) {
            due("14 at(" + square + ") after plays", x.at(square), square <= 11 ? 1 : square >= 20 ? 3 : 0);
        }
        x = twoKings();
        due("14 kings: plays(1)", x.plays(1), 1);
        due("14 kings: plays(2)", x.plays(2), 1);
        due("14 kings: plays(3)", x.plays(3), 4);
        due("14 crowned on the way", board(0, 24, 1, 3, 4).plays(3), 1 + 2);
    }

    // Promise 14: a side without moves ends the play.
    private static void playsThatEnd() {
        DraughtsBoard x = new DraughtsBoard();
        due("14 empty: plays(0)", x.plays(0), 1);
        due("14 empty: plays(1)", x.plays(1), 0);
        due("14 empty: plays(2)", x.plays(2), 0);
        due("14 empty: plays(3)", x.plays(3), 0);
        x = board(0, 9, 1, 14, 3);
        due("14 last piece taken: plays(1)", x.plays(1), 1);
        due("14 last piece taken: plays(2)", x.plays(2), 0);
        due("14 last piece taken: plays(3)", x.plays(3), 0);
        x = board(0, 4, 1, 13, 3);
        due("14 side 0 goes to be taken: plays(2)", x.plays(2), 1);
        due("14 side 0 goes to be taken: plays(3)", x.plays(3), 0);
        x = board(0, 9, 1, 14, 3, 13, 3);
        due("14 one left: plays(1)", x.plays(1), 2);
        due("14 one left: plays(2)", x.plays(2), 4);
    }

    // Promise 15
    private static void mostTaken() {
        due("15 empty board", new DraughtsBoard().mostTaken(), 0);
        due("15 steps", board(0, 17, 2).mostTaken(), 0);
        due("15 one", board(0, 9, 1, 14, 3).mostTaken(), 1);
        due("15 the greater is first", board(0, 1, 1, 6, 3, 14, 3, 15, 3, 21, 3).mostTaken(), 3);
        due("15 the greater is last", board(0, 9, 2, 13, 3, 14, 3, 21, 3, 22, 3, 5, 3).mostTaken(), 5);
        due("15 of the side to move", board(1, 1, 1, 6, 3, 14, 3, 15, 3, 21, 3).mostTaken(), 0);
        due("15 the greater is in the middle",
                board(0, 3, 1, 7, 3, 12, 1, 16, 3, 25, 3, 19, 1, 23, 3).mostTaken(), 2);
    }

    // Promise 16
    private static void movable() {
        due("16 empty board", new DraughtsBoard().movable(), 0);
        due("16 steps", board(0, 0, 1, 17, 2, 31, 3).movable(), 1 | 1 << 17);
        due("16 side 1", board(1, 0, 1, 17, 2, 31, 3).movable(), 1 << 31);
        due("16 only who can jump", board(0, 9, 1, 14, 3, 0, 1, 28, 2).movable(), 1 << 9);
        due("16 two can jump", board(0, 9, 1, 14, 3, 10, 1).movable(), 1 << 9 | 1 << 10);
        DraughtsBoard x = new DraughtsBoard();
        x.start();
        due("16 the beginning", x.movable(), 0xF00);
        x.turn(1);
        due("16 the beginning for side 1", x.movable(), 0xF00000);
    }

    // Promise 17
    private static void refusedTurn() {
        DraughtsBoard x = board(0, 12, 1, 19, 3);
        due("17 play", x.play(0), 0);
        due("17 play", x.play(0), 0);
        for (int side : new int[] {2, -1, Integer.MIN_VALUE, Integer.MAX_VALUE}) {
            due("17 turn(" + side + ")", x.turn(side), false);
        }
        due("17 side", x.side(), 0);
        due("17 back", x.back(), true);
        due("17 turn(2)", x.turn(2), false);
        due("17 side", x.side(), 1);
        due("17 back", x.back(), true);
        dueBoard("17 back", x, 12, 1, 19, 3);
        due("17 no more", x.back(), false);
    }
}

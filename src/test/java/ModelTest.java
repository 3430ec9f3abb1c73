import java.util.ArrayList;
import java.util.List;

// Long runs of calls, each answer compared with a second writing of the rules: a grid of rows and columns,
// recursion, lists sorted at the end. The runs come from a fixed arithmetic sequence, so they are always the same.
public final class ModelTest {
    private static final int RUNS = 600;
    private static final int ROUNDS_IN_A_RUN = 24;

    private static int wrong = 0;
    private static long seed = 20261115L;

    private static final class Move {
        final List<Integer> path = new ArrayList<>();
        final List<Integer> taken = new ArrayList<>();
    }

    private static final class Model {
        int[][] grid = new int[8][8];
        int side = 0;
        final List<int[][]> past = new ArrayList<>();

        static int row(int square) {
            return square / 4;
        }

        static int column(int square) {
            return square % 4 * 2 + 1 - row(square) % 2;
        }

        static int number(int row, int column) {
            int number = 0;
            for (int square = 0; square < 32; square++) {
                if (row(square) == row && column(square) == column) {
                    number = square;
                }
            }
            return number;
        }

        static boolean onBoard(int row, int column) {
            return 0 <= row && row <= 7 && 0 <= column && column <= 7;
        }

        int at(int square) {
            return grid[row(square)][column(square)];
        }

        boolean isOf(int side, int row, int column) {
            int piece = grid[row][column];
            return side == 0 ? piece == 1 || piece == 2 : piece == 3 || piece == 4;
        }

        static boolean goes(int piece, int down) {
            return piece == 2 || piece == 4 || (piece == 1 ? down == 1 : down == -1);
        }

        static boolean lastRow(int piece, int row) {
            return piece == 1 && row == 7 || piece == 3 && row == 0;
        }

        void jumpOn(int piece, Move so, List<Move> found) {
            int begin = so.path.get(0);
            int here = so.path.get(so.path.size() - 1);
            int row = row(here);
            int column = column(here);
            boolean ended = true;
            for (int down = -1; down <= 1 && !lastRow(piece, row); down += 2) {
                for (int across = -1; across <= 1; across += 2) {
                    if (!goes(piece, down) || !onBoard(row + 2 * down, column + 2 * across)) {
                        continue;
                    }
                    int over = number(row + down, column + across);
                    int to = number(row + 2 * down, column + 2 * across);
                    boolean free = at(to) == 0 || to == begin;
                    if (free && isOf(1 - side, row + down, column + across) && !so.taken.contains(over)) {
                        ended = false;
                        Move longer = new Move();
                        longer.path.addAll(so.path);
                        longer.path.add(to);
                        longer.taken.addAll(so.taken);
                        longer.taken.add(over);
                        jumpOn(piece, longer, found);
                    }
                }
            }
            if (ended && so.path.size() > 1) {
                found.add(so);
            }
        }

        void steps(int square, List<Move> found) {
            for (int to = 0; to < 32; to++) {
                int down = row(to) - row(square);
                int across = column(to) - column(square);
                if (down * down == 1 && across * across == 1 && goes(at(square), down) && at(to) == 0) {
                    Move move = new Move();
                    move.path.add(square);
                    move.path.add(to);
                    found.add(move);
                }
            }
        }

        List<Move> moves() {
            List<Move> jumps = new ArrayList<>();
            List<Move> steps = new ArrayList<>();
            // From the last square on, so that it is the sorting that makes the order.
            for (int square = 31; square >= 0; square--) {
                if (isOf(side, row(square), column(square))) {
                    Move begin = new Move();
                    begin.path.add(square);
                    jumpOn(at(square), begin, jumps);
                    steps(square, steps);
                }
            }
            List<Move> all = jumps.isEmpty() ? steps : jumps;
            all.sort((a, b) -> compare(a.path, b.path));
            return all;
        }

        static int compare(List<Integer> a, List<Integer> b) {
            for (int i = 0; i < a.size() && i < b.size(); i++) {
                if (!a.get(i).equals(b.get(i))) {
                    return a.get(i) - b.get(i);
                }
            }
            return a.size() - b.size();
        }

        Model after(Move move) {
            Model next = new Model();
            for (int row = 0; row < 8; row++) {
                next.grid[row] = grid[row].clone();
            }
            int from = move.path.get(0);
            int to = move.path.get(move.path.size() - 1);
            int piece = at(from);
            next.grid[row(from)][column(from)] = 0;
            for (int square : move.taken) {
                next.grid[row(square)][column(square)] = 0;
            }
            next.grid[row(to)][column(to)] = lastRow(piece, row(to)) ? piece + 1 : piece;
            next.side = 1 - side;
            return next;
        }

        void play(Move move) {
            past.add(grid);
            if (past.size() > 20) {
                past.remove(0);
            }
            grid = after(move).grid;
            side = 1 - side;
        }

        boolean back() {
            if (past.isEmpty()) {
                return false;
            }
            grid = past.remove(past.size() - 1);
            side = 1 - side;
            return true;
        }

        boolean place(int square, int piece) {
            if (square < 0 || square > 31 || piece < 0 || piece > 4 || lastRow(piece, row(square))) {
                return false;
            }
            int[][] changed = new int[8][];
            for (int row = 0; row < 8; row++) {
                changed[row] = grid[row].clone();
            }
            changed[row(square)][column(square)] = piece;
            grid = changed;
            past.clear();
            return true;
        }

        boolean turn(int to) {
            if (to < 0 || to > 1) {
                return false;
            }
            side = to;
            past.clear();
            return true;
        }

        int plays(int d) {
            if (d == 0) {
                return 1;
            }
            int ways = 0;
            for (Move move : moves()) {
                ways += after(move).plays(d - 1);
            }
            return ways;
        }
    }

    public static void main(String[] args) {
        for (int run = 0; run < RUNS && wrong < 20; run++) {
            oneRun(run);
        }
        System.out.println(wrong == 0 ? "all answers are the model's" : wrong + " answers are not the model's");
        if (wrong != 0) {
            System.exit(1);
        }
    }

    private static int draw(int bound) {
        seed = seed * 6364136223846793005L + 1442695040888963407L;
        return (int) ((seed >>> 33) % bound);
    }

    private static void due(String what, long got, long want) {
        if (got != want) {
            wrong++;
            System.out.println(what + ": answered " + got + ", the model says " + want);
        }
    }

    private static void due(String what, boolean got, boolean want) {
        due(what, got ? 1 : 0, want ? 1 : 0);
    }

    private static void oneRun(int run) {
        DraughtsBoard x = new DraughtsBoard();
        Model model = new Model();
        setUp(run, x, model);
        for (int round = 0; round < ROUNDS_IN_A_RUN; round++) {
            change("run " + run + " round " + round, x, model);
            compare("run " + run + " round " + round, x, model);
        }
    }

    // Every third run begins as a game does; the others with pieces strewn thinly or thickly, and few or many kings.
    private static void setUp(int run, DraughtsBoard x, Model model) {
        if (run % 3 == 0) {
            x.start();
            for (int square = 0; square < 32; square++) {
                model.place(square, square < 12 ? 1 : square < 20 ? 0 : 3);
            }
            return;
        }
        int outOf10 = 1 + draw(8);
        int kingsOutOf10 = draw(11);
        int ofSide1OutOf10 = 2 + draw(8);
        for (int square = 0; square < 32; square++) {
            if (draw(10) < outOf10) {
                int piece = (draw(10) < ofSide1OutOf10 ? 3 : 1) + (draw(10) < kingsOutOf10 ? 1 : 0);
                due("run " + run + ": place", x.place(square, piece), model.place(square, piece));
            }
        }
    }

    private static void change(String where, DraughtsBoard x, Model model) {
        List<Move> moves = model.moves();
        int what = draw(24);
        if (what == 0) {
            int square = draw(34) - 1;
            int piece = draw(7) - 1;
            due(where + ": place(" + square + ", " + piece + ")", x.place(square, piece), model.place(square, piece));
        } else if (what == 1) {
            int side = draw(4) - 1;
            due(where + ": turn(" + side + ")", x.turn(side), model.turn(side));
        } else if (what < 5) {
            due(where + ": back()", x.back(), model.back());
        } else if (what == 5 || moves.isEmpty()) {
            due(where + ": play of none", x.play(draw(2) == 0 ? -1 : moves.size()), DraughtsBoard.BAD);
        } else {
            int k = draw(moves.size());
            due(where + ": play(" + k + ")", x.play(k), moves.get(k).taken.size());
            model.play(moves.get(k));
        }
    }

    private static void compare(String where, DraughtsBoard x, Model model) {
        List<Move> moves = model.moves();
        int most = 0;
        int movable = 0;
        for (Move move : moves) {
            most = move.taken.size() > most ? move.taken.size() : most;
            movable |= 1 << move.path.get(0);
        }
        due(where + ": side()", x.side(), model.side);
        due(where + ": moves()", x.moves(), moves.size());
        due(where + ": mustJump()", x.mustJump(), most > 0);
        due(where + ": mostTaken()", x.mostTaken(), most);
        due(where + ": movable()", x.movable(), movable);
        int d = draw(4);
        due(where + ": plays(" + d + ")", x.plays(d), model.plays(d));
        // An object is good for 512 calls, so what is asked of each square, kind and move is asked by turns.
        int square = draw(32);
        due(where + ": at(" + square + ")", x.at(square), model.at(square));
        int kind = 1 + draw(4);
        int found = 0;
        for (int s = 0; s < 32; s++) {
            found += model.at(s) == kind ? 1 : 0;
        }
        due(where + ": count(" + kind + ")", x.count(kind), found);
        if (!moves.isEmpty()) {
            int k = draw(moves.size());
            List<Integer> path = moves.get(k).path;
            due(where + ": length(" + k + ")", x.length(k), path.size());
            int i = 1 + draw(path.size() - 1);
            due(where + ": path(" + k + ", 0)", x.path(k, 0), path.get(0));
            due(where + ": path(" + k + ", " + i + ")", x.path(k, i), path.get(i));
            due(where + ": path behind its end", x.path(k, path.size()), DraughtsBoard.BAD);
        }
    }
}

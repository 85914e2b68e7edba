import java.util.ArrayList;
import java.util.List;

/**
 * Compares runs of calls with a model that is written from the document's words alone: it tries all
 * 2^24 sets of edges and looks for the cells inside by walking in from outside the board.
 */
public final class ModelTest {
    private static final int RUNS = 400;
    private static final int CALLS = 512;

    private static int wrong = 0;
    private static long seed = 20261115L;
    private static List<boolean[]> loops;

    /** The state of one modelled object. */
    private static final class Model {
        private final int[][] clues = new int[3][3];
        private final int[] marks = new int[24];
        private List<boolean[]> solutions;

        Model() {
            clear();
        }

        void clear() {
            for (int cell = 0; cell < 9; cell++) {
                clues[cell / 3][cell % 3] = 5;
            }
            for (int edge = 0; edge < 24; edge++) {
                marks[edge] = 0;
            }
            solutions = null;
        }

        int clue(int row, int column, int clue) {
            if (row < 0 || row > 2 || column < 0 || column > 2) {
                return -1;
            }
            if (clue < 0 || clue > 5) {
                return -3;
            }
            int old = clues[row][column];
            clues[row][column] = clue;
            solutions = null;
            return old;
        }

        int mark(int edge, int mark) {
            if (edge < 0 || edge > 23) {
                return -2;
            }
            if (mark < 0 || mark > 2) {
                return -3;
            }
            int old = marks[edge];
            marks[edge] = mark;
            solutions = null;
            return old;
        }

        List<boolean[]> all() {
            if (solutions == null) {
                solutions = new ArrayList<>();
                for (boolean[] loop : loops) {
                    if (holds(loop)) {
                        solutions.add(loop);
                    }
                }
            }
            return solutions;
        }

        private boolean holds(boolean[] loop) {
            for (int edge = 0; edge < 24; edge++) {
                if (marks[edge] == 1 && !loop[edge] || marks[edge] == 2 && loop[edge]) {
                    return false;
                }
            }
            for (int r = 0; r < 3; r++) {
                for (int c = 0; c < 3; c++) {
                    int around = 0;
                    for (int edge : new int[] {above(r, c), above(r + 1, c), left(r, c), left(r, c + 1)}) {
                        around += loop[edge] ? 1 : 0;
                    }
                    if (clues[r][c] != 5 && clues[r][c] != around) {
                        return false;
                    }
                }
            }
            return true;
        }

        int votes(int edge) {
            if (edge < 0 || edge > 23) {
                return -2;
            }
            int total = 0;
            for (boolean[] loop : all()) {
                total += loop[edge] ? 1 : 0;
            }
            return total;
        }

        boolean exists(int n) {
            return n >= 0 && n < all().size();
        }

        boolean chosen(int n, int edge) {
            return exists(n) && edge >= 0 && edge < 24 && all().get(n)[edge];
        }

        int length(int n) {
            return exists(n) ? lengthOf(all().get(n)) : 0;
        }

        int inside(int n) {
            return exists(n) ? insideOf(all().get(n)) : 0;
        }

        int decided() {
            int total = 0;
            for (int edge = 0; edge < 24 && !all().isEmpty(); edge++) {
                int votes = votes(edge);
                total += votes == 0 || votes == all().size() ? 1 : 0;
            }
            return total;
        }

        int shortest() {
            int least = all().isEmpty() ? 0 : Integer.MAX_VALUE;
            for (boolean[] loop : all()) {
                least = Math.min(least, lengthOf(loop));
            }
            return least;
        }
    }

    private static int above(int r, int c) {
        return r * 3 + c;
    }

    private static int left(int r, int c) {
        return 12 + r * 4 + c;
    }

    /** For each of the 16 points the edges that end there, as bits. */
    private static int[] edgesAtPoints() {
        int[] at = new int[16];
        for (int r = 0; r < 4; r++) {
            for (int c = 0; c < 4; c++) {
                int edges = 0;
                edges |= c < 3 ? 1 << above(r, c) : 0;
                edges |= c > 0 ? 1 << above(r, c - 1) : 0;
                edges |= r < 3 ? 1 << left(r, c) : 0;
                edges |= r > 0 ? 1 << left(r - 1, c) : 0;
                at[r * 4 + c] = edges;
            }
        }
        return at;
    }

    private static List<boolean[]> allLoops() {
        int[] at = edgesAtPoints();
        List<boolean[]> found = new ArrayList<>();
        for (int edges = 1; edges < 1 << 24; edges++) {
            if (meetsInPairs(edges, at) && isOnePiece(edges, at)) {
                boolean[] loop = new boolean[24];
                for (int edge = 0; edge < 24; edge++) {
                    loop[edge] = (edges >> edge & 1) == 1;
                }
                found.add(loop);
            }
        }
        found.sort(ModelTest::order);
        return found;
    }

    private static boolean meetsInPairs(int edges, int[] at) {
        for (int here : at) {
            int count = Integer.bitCount(edges & here);
            if (count != 0 && count != 2) {
                return false;
            }
        }
        return true;
    }

    private static boolean isOnePiece(int edges, int[] at) {
        int piece = Integer.lowestOneBit(edges);
        int before = 0;
        while (piece != before) {
            before = piece;
            for (int here : at) {
                if ((piece & here) != 0) {
                    piece |= edges & here;
                }
            }
        }
        return piece == edges;
    }

    private static int order(boolean[] one, boolean[] other) {
        for (int edge = 0; edge < 24; edge++) {
            if (one[edge] != other[edge]) {
                return one[edge] ? 1 : -1;
            }
        }
        return 0;
    }

    private static int lengthOf(boolean[] loop) {
        int total = 0;
        for (boolean one : loop) {
            total += one ? 1 : 0;
        }
        return total;
    }

    /** Cells that can't be reached from outside the board without crossing the loop. */
    private static int insideOf(boolean[] loop) {
        boolean[][] outside = new boolean[5][5];
        outside[0][0] = true;
        boolean more = true;
        while (more) {
            more = false;
            for (int r = 0; r < 5; r++) {
                for (int c = 0; c < 5; c++) {
                    boolean down = r < 4 && !(c >= 1 && c <= 3 && loop[above(r, c - 1)]);
                    if (down && outside[r][c] != outside[r + 1][c]) {
                        outside[r][c] = outside[r + 1][c] = true;
                        more = true;
                    }
                    boolean right = c < 4 && !(r >= 1 && r <= 3 && loop[left(r - 1, c)]);
                    if (right && outside[r][c] != outside[r][c + 1]) {
                        outside[r][c] = outside[r][c + 1] = true;
                        more = true;
                    }
                }
            }
        }
        int total = 0;
        for (int cell = 0; cell < 9; cell++) {
            total += outside[1 + cell / 3][1 + cell % 3] ? 0 : 1;
        }
        return total;
    }

    /** The same numbers in every run of the test. */
    private static int pick(int bound) {
        seed = seed * 6364136223846793005L + 1442695040888963407L;
        return (int) ((seed >>> 33) % bound);
    }

    /** Mostly 0 to bound - 1, now and then a number that is outside. */
    private static int pickAround(int bound) {
        if (pick(16) != 0) {
            return pick(bound);
        }
        int[] outside = {-1, bound, bound + 1, bound + 32, -32, Integer.MIN_VALUE, Integer.MAX_VALUE};
        return outside[pick(outside.length)];
    }

    private static String oneCall(SlitherLoop x, Model m) {
        int row = pickAround(3);
        int column = pickAround(3);
        int edge = pickAround(24);
        int n = pickAround(m.all().size() + 2);
        switch (pick(12)) {
            case 0:
            case 1: {
                int clue = pick(3) == 0 ? 5 : pickAround(6);
                return check("clue(" + row + ", " + column + ", " + clue + ")",
                        x.clue(row, column, clue), m.clue(row, column, clue));
            }
            case 2:
            case 3: {
                int mark = pick(3) == 0 ? 0 : pickAround(3);
                return check("mark(" + edge + ", " + mark + ")", x.mark(edge, mark), m.mark(edge, mark));
            }
            case 4:
                if (pick(4) == 0) {
                    x.clear();
                    m.clear();
                }
                return "";
            case 5:
                return check("solutions()", x.solutions(), m.all().size());
            case 6:
                return check("votes(" + edge + ")", x.votes(edge), m.votes(edge));
            case 7:
                return check("chosen(" + n + ", " + edge + ")", x.chosen(n, edge) ? 1 : 0, m.chosen(n, edge) ? 1 : 0);
            case 8:
                return check("length(" + n + ")", x.length(n), m.length(n));
            case 9:
                return check("inside(" + n + ")", x.inside(n), m.inside(n));
            case 10:
                return check("decided()", x.decided(), m.decided());
            default:
                return check("shortest()", x.shortest(), m.shortest());
        }
    }

    private static String check(String call, int got, int want) {
        return got == want ? "" : call + " answered " + got + ", due is " + want;
    }

    private static void report(String where, String fault) {
        if (!fault.isEmpty()) {
            wrong++;
            System.out.println(where + ": " + fault);
        }
    }

    private static void everyLoopWithoutHints() {
        Model m = new Model();
        report("model", check("solutions()", m.all().size(), 213));
        for (int n = 0; n < m.all().size(); n++) {
            SlitherLoop x = new SlitherLoop();
            report("without hints", check("length(" + n + ")", x.length(n), m.length(n)));
            report("without hints", check("inside(" + n + ")", x.inside(n), m.inside(n)));
            for (int edge = 0; edge < 24; edge++) {
                report("without hints", check("chosen(" + n + ", " + edge + ")",
                        x.chosen(n, edge) ? 1 : 0, m.chosen(n, edge) ? 1 : 0));
            }
        }
    }

    private static void mixedRuns() {
        for (int run = 0; run < RUNS; run++) {
            SlitherLoop x = new SlitherLoop();
            Model m = new Model();
            for (int call = 0; call < CALLS; call++) {
                report("run " + run + ", call " + call, oneCall(x, m));
            }
        }
    }

    public static void main(String[] args) {
        loops = allLoops();
        everyLoopWithoutHints();
        mixedRuns();
        System.out.println(wrong == 0 ? "all answers are as due" : wrong + " answers are not as due");
        if (wrong != 0) {
            System.exit(1);
        }
    }
}

import java.util.ArrayList;
import java.util.List;
import java.util.function.Consumer;
import java.util.function.ToIntFunction;
import java.util.stream.IntStream;

/**
 * Each sentence of the document that names a boundary case, with a test of its own that bears the
 * sentence's words. No object is called more than 512 times, because what later calls answer is free.
 */
public final class BoundaryTest {
    private static final int LOOPS = 213;
    private static final int CALLS = 512;
    private static final int QUESTIONS = 7;
    private static final int CHOSEN = SlitherLoop.CHOSEN;
    private static final int CROSSED = SlitherLoop.CROSSED;
    private static final int OPEN = SlitherLoop.OPEN;
    private static final int NO_CLUE = SlitherLoop.NO_CLUE;
    private static final int BAD_CELL = SlitherLoop.BAD_CELL;
    private static final int BAD_EDGE = SlitherLoop.BAD_EDGE;
    private static final int BAD_VALUE = SlitherLoop.BAD_VALUE;

    // Beside the nearest numbers there are some that would be good ones if only a part of their
    // bits were looked at, or if their threefold were looked at after it has wrapped around.
    private static final int[] TOO_SMALL = {
        -1, -2, -3, -24, -32, -64, -256, -65536, -1431655765, Integer.MIN_VALUE + 1, Integer.MIN_VALUE};
    private static final int[] FAR_TOO_LARGE = {
        256, 257, 512, 65536, 1 << 30, 1431655766, Integer.MAX_VALUE - 1, Integer.MAX_VALUE};

    private static final int[] BORDER = {0, 1, 2, 9, 10, 11, 12, 15, 16, 19, 20, 23};
    private static final int[] LONGEST = {0, 1, 2, 4, 5, 7, 8, 9, 10, 11, 12, 15, 16, 17, 20, 23};

    private static final String[] STATES = {
        "without hints", "with some hints", "with one solution", "without solutions", "with all hints"};
    private static final List<List<Integer>> ANSWERS_OF_STATES = new ArrayList<>();
    private static final List<int[]> EDGES_OF_LOOPS = new ArrayList<>();

    private static String sentence = "";
    private static int wrongHere = 0;
    private static int passed = 0;
    private static int failed = 0;

    // ---- Tools

    private static void test(String where, String words, Runnable test) {
        sentence = where + ", \"" + words + "\"";
        wrongHere = 0;
        try {
            test.run();
        } catch (RuntimeException thrown) {
            wrong("a call threw " + thrown);
        }
        if (wrongHere == 0) {
            passed++;
        } else {
            failed++;
        }
    }

    private static void wrong(String what) {
        wrongHere++;
        System.out.println(sentence + ": " + what);
    }

    private static void due(String call, long got, long want) {
        if (got != want) {
            wrong(call + " answered " + got + ", due is " + want);
        }
    }

    private static void due(String call, boolean got, boolean want) {
        if (got != want) {
            wrong(call + " answered " + got + ", due is " + want);
        }
    }

    private static boolean isIn(int[] list, int number) {
        return IntStream.of(list).anyMatch(one -> one == number);
    }

    private static int[] together(int[] one, int[] other) {
        return IntStream.concat(IntStream.of(one), IntStream.of(other)).toArray();
    }

    private static int[] tooLarge(int bound) {
        int[] near = {bound, bound + 1, bound + 8, bound + 32};
        return together(near, FAR_TOO_LARGE);
    }

    private static int[] outside(int bound) {
        return together(TOO_SMALL, tooLarge(bound));
    }

    private static int[] sidesOf(int row, int column) {
        return new int[] {
            row * 3 + column, (row + 1) * 3 + column, 12 + row * 4 + column, 12 + row * 4 + column + 1};
    }

    private static SlitherLoop withClue(int row, int column, int clue) {
        SlitherLoop x = new SlitherLoop();
        x.clue(row, column, clue);
        return x;
    }

    private static SlitherLoop withMarks(int mark, int... edges) {
        SlitherLoop x = new SlitherLoop();
        for (int edge : edges) {
            x.mark(edge, mark);
        }
        return x;
    }

    /** Every edge has a mark: these are chosen, and the others are not. */
    private static SlitherLoop withAllMarks(int... edges) {
        SlitherLoop x = new SlitherLoop();
        for (int edge = 0; edge < 24; edge++) {
            x.mark(edge, isIn(edges, edge) ? CHOSEN : CROSSED);
        }
        return x;
    }

    private static void takeMarksAway(SlitherLoop x, int... edges) {
        for (int edge : edges) {
            x.mark(edge, OPEN);
        }
    }

    private static int clueThatHolds(int cell, int[] edges) {
        return (int) IntStream.of(sidesOf(cell / 3, cell % 3)).filter(side -> isIn(edges, side)).count();
    }

    /** Every edge has a mark and every cell the clue that goes with them. */
    private static SlitherLoop withAllHints(int... edges) {
        SlitherLoop x = withAllMarks(edges);
        for (int cell = 0; cell < 9; cell++) {
            x.clue(cell / 3, cell % 3, clueThatHolds(cell, edges));
        }
        return x;
    }

    /** Two cells with all four edges chosen would be two loops. */
    private static SlitherLoop withoutSolutions() {
        SlitherLoop x = withClue(0, 0, 4);
        x.clue(2, 2, 4);
        return x;
    }

    private static SlitherLoop withSomeHints() {
        SlitherLoop x = withClue(1, 1, 2);
        x.mark(10, CHOSEN);
        x.mark(0, CROSSED);
        return x;
    }

    private static SlitherLoop state(int number) {
        switch (number) {
            case 0:
                return new SlitherLoop();
            case 1:
                return withSomeHints();
            case 2:
                return withClue(0, 1, 4);
            case 3:
                return withoutSolutions();
            default:
                return withAllHints(BORDER);
        }
    }

    private static void readHints(SlitherLoop x, List<Integer> all) {
        for (int cell = 0; cell < 9; cell++) {
            int clue = x.clue(cell / 3, cell % 3, NO_CLUE);
            x.clue(cell / 3, cell % 3, clue);
            all.add(clue);
        }
        for (int edge = 0; edge < 24; edge++) {
            int mark = x.mark(edge, OPEN);
            x.mark(edge, mark);
            all.add(mark);
        }
    }

    private static void ask(SlitherLoop x, int question, List<Integer> all) {
        switch (question) {
            case 0:
                all.add(x.solutions());
                break;
            case 1:
                all.add(x.decided());
                break;
            case 2:
                all.add(x.shortest());
                break;
            case 3:
                IntStream.range(0, 24).forEach(edge -> all.add(x.votes(edge)));
                break;
            default:
                askOfSolutions(x, question, all);
        }
    }

    private static void askOfSolutions(SlitherLoop x, int question, List<Integer> all) {
        for (int n : new int[] {212, 0, 1, 12, 25}) {
            switch (question) {
                case 4:
                    all.add(x.length(n));
                    break;
                case 5:
                    all.add(x.inside(n));
                    break;
                default:
                    IntStream.range(0, 24).forEach(edge -> all.add(x.chosen(n, edge) ? 1 : 0));
            }
        }
    }

    /** What the calls answer. The hints come first, so that no question can have changed them. */
    private static List<Integer> allAnswers(SlitherLoop x, boolean backwards) {
        List<Integer> all = new ArrayList<>();
        readHints(x, all);
        for (int question = 0; question < QUESTIONS; question++) {
            ask(x, backwards ? QUESTIONS - 1 - question : question, all);
        }
        return all;
    }

    private static List<Integer> answersOfState(int number, boolean backwards) {
        int place = number * 2 + (backwards ? 1 : 0);
        while (ANSWERS_OF_STATES.size() <= place) {
            int next = ANSWERS_OF_STATES.size();
            ANSWERS_OF_STATES.add(allAnswers(state(next / 2), next % 2 == 1));
        }
        return ANSWERS_OF_STATES.get(place);
    }

    /**
     * The questions are asked in both orders: what a question changes for another one is seen only
     * where the other one is asked first, because the due answers come from asking, too.
     */
    private static void changesNothing(String call, Consumer<SlitherLoop> made) {
        for (int number = 0; number < STATES.length; number++) {
            for (boolean backwards : new boolean[] {false, true}) {
                SlitherLoop x = state(number);
                made.accept(x);
                if (!allAnswers(x, backwards).equals(answersOfState(number, backwards))) {
                    wrong(call + " " + STATES[number] + " has changed what other calls answer");
                }
            }
        }
    }

    /** In every state the call has this answer, and afterwards nothing has changed. */
    private static void refused(String call, ToIntFunction<SlitherLoop> made, int want) {
        changesNothing(call, x -> due(call, made.applyAsInt(x), want));
    }

    private static void refusedClue(int row, int column, int clue, int want) {
        refused("clue(" + row + ", " + column + ", " + clue + ")", x -> x.clue(row, column, clue), want);
    }

    private static void refusedMark(int edge, int mark, int want) {
        refused("mark(" + edge + ", " + mark + ")", x -> x.mark(edge, mark), want);
    }

    private static void refusedChosen(int n, int edge) {
        refused("chosen(" + n + ", " + edge + ")", x -> x.chosen(n, edge) ? 1 : 0, 0);
    }

    private static void dueClues(SlitherLoop x, String when, int... want) {
        for (int cell = 0; cell < 9; cell++) {
            due("the clue of cell " + cell + when, x.clue(cell / 3, cell % 3, NO_CLUE), want[cell]);
        }
    }

    private static void dueNoHints(SlitherLoop x, String when) {
        due("solutions()" + when, x.solutions(), LOOPS);
        dueClues(x, when, 5, 5, 5, 5, 5, 5, 5, 5, 5);
        for (int edge = 0; edge < 24; edge++) {
            due("the mark of edge " + edge + when, x.mark(edge, OPEN), OPEN);
        }
    }

    private static void dueEdges(SlitherLoop x, int n, int... want) {
        for (int edge = 0; edge < 24; edge++) {
            due("chosen(" + n + ", " + edge + ")", x.chosen(n, edge), isIn(want, edge));
        }
    }

    /** The loops as a new object tells them. */
    private static int[] edgesOfLoop(int n) {
        while (EDGES_OF_LOOPS.size() <= n) {
            SlitherLoop x = new SlitherLoop();
            int loop = EDGES_OF_LOOPS.size();
            EDGES_OF_LOOPS.add(IntStream.range(0, 24).filter(edge -> x.chosen(loop, edge)).toArray());
        }
        return EDGES_OF_LOOPS.get(n);
    }

    // ---- What it is

    private static int oneOfAllCalls(SlitherLoop x, int turn) {
        switch (turn % 11) {
            case 0:
                return x.clue(turn % 3, turn / 3 % 3, turn % 6);
            case 1:
                return x.mark(turn % 24, turn % 3);
            case 2:
                return x.solutions();
            case 3:
                return x.votes(turn % 24);
            case 4:
                return x.chosen(turn % LOOPS, turn % 24) ? 1 : 0;
            case 5:
                return x.length(turn % LOOPS);
            case 6:
                return x.inside(turn % LOOPS);
            case 7:
                return x.decided();
            case 8:
                return x.shortest();
            case 9:
                return x.mark(-1, turn);
            default:
                x.clear();
                return 0;
        }
    }

    private static void dueAs512th(String call, int want, ToIntFunction<SlitherLoop> made) {
        SlitherLoop x = new SlitherLoop();
        for (int turn = 0; turn < CALLS - 4; turn++) {
            oneOfAllCalls(x, turn);
        }
        x.clear();
        x.clue(1, 1, 2);
        x.mark(10, CHOSEN);
        due(call + " as the 512th call", made.applyAsInt(x), want);
    }

    private static void callsOfAllKinds() {
        dueAs512th("clue(1, 1, 0)", 2, x -> x.clue(1, 1, 0));
        dueAs512th("clue(2, 2, 0)", NO_CLUE, x -> x.clue(2, 2, 0));
        dueAs512th("clue(3, 0, 0)", BAD_CELL, x -> x.clue(3, 0, 0));
        dueAs512th("mark(10, 0)", CHOSEN, x -> x.mark(10, 0));
        dueAs512th("mark(23, 1)", OPEN, x -> x.mark(23, 1));
        dueAs512th("mark(0, 3)", BAD_VALUE, x -> x.mark(0, 3));
        dueAs512th("solutions()", 40, x -> x.solutions());
        dueAs512th("votes(10)", 40, x -> x.votes(10));
        dueAs512th("votes(24)", BAD_EDGE, x -> x.votes(24));
        dueAs512th("chosen(0, 10)", 1, x -> x.chosen(0, 10) ? 1 : 0);
        dueAs512th("length(39)", 16, x -> x.length(39));
        dueAs512th("inside(39)", 7, x -> x.inside(39));
        dueAs512th("decided()", 1, x -> x.decided());
        dueAs512th("shortest()", 8, x -> x.shortest());
    }

    private static void callsOfOneKind() {
        SlitherLoop clues = new SlitherLoop();
        for (int call = 1; call < CALLS; call++) {
            int old = call == 1 ? NO_CLUE : (call - 1) % 6;
            due("clue(2, 2, " + call % 6 + ")", clues.clue(2, 2, call % 6), old);
        }
        due("clue(2, 2, 5) as the 512th call", clues.clue(2, 2, NO_CLUE), 511 % 6);
        SlitherLoop marks = new SlitherLoop();
        for (int call = 1; call < CALLS; call++) {
            due("mark(23, " + call % 3 + ")", marks.mark(23, call % 3), (call - 1) % 3);
        }
        due("mark(23, 0) as the 512th call", marks.mark(23, OPEN), 511 % 3);
        SlitherLoop cleared = withSomeHints();
        for (int call = 4; call < CALLS; call++) {
            cleared.clear();
        }
        due("solutions() after clear() as the 511th call", cleared.solutions(), LOOPS);
        SlitherLoop refusing = withSomeHints();
        for (int call = 4; call < CALLS; call++) {
            due("clue(0, 0, 6)", refusing.clue(0, 0, 6), BAD_VALUE);
        }
        due("solutions() after refused calls as the 512th call", refusing.solutions(), 26);
    }

    // ---- Terms

    /** The edge is a side of a cell if crossing it rules out the loop around that cell. */
    private static void dueCellsOf(int edge, int... cells) {
        for (int cell = 0; cell < 9; cell++) {
            SlitherLoop x = withClue(cell / 3, cell % 3, 4);
            x.mark(edge, CROSSED);
            due("solutions() without edge " + edge + " around cell " + cell, x.solutions(), isIn(cells, cell) ? 0 : 1);
        }
    }

    private static void horizontalEdges() {
        for (int c = 0; c < 3; c++) {
            dueCellsOf(c, c);
            dueCellsOf(3 + c, c, 3 + c);
            dueCellsOf(6 + c, 3 + c, 6 + c);
        }
    }

    private static void lastRowOfEdges() {
        for (int c = 0; c < 3; c++) {
            dueCellsOf(9 + c, 6 + c);
        }
    }

    private static void verticalEdges() {
        for (int r = 0; r < 3; r++) {
            dueCellsOf(12 + r * 4, r * 3);
            dueCellsOf(12 + r * 4 + 1, r * 3, r * 3 + 1);
            dueCellsOf(12 + r * 4 + 2, r * 3 + 1, r * 3 + 2);
        }
    }

    private static void lastColumnOfEdges() {
        for (int r = 0; r < 3; r++) {
            dueCellsOf(12 + r * 4 + 3, r * 3 + 2);
        }
    }

    private static void atLeastOneEdge() {
        SlitherLoop x = new SlitherLoop();
        due("length(0), the place of a choice without edges", x.length(0), 4);
        due("solutions() with all edges crossed", withAllMarks().solutions(), 0);
        due("length(0) with all edges crossed", withAllMarks().length(0), 0);
        SlitherLoop zeros = new SlitherLoop();
        for (int cell = 0; cell < 9; cell++) {
            zeros.clue(cell / 3, cell % 3, 0);
        }
        due("solutions() with all clues 0", zeros.solutions(), 0);
        due("solutions() with all hints of no edge", withAllHints().solutions(), 0);
    }

    private static int[] edgesAt(int r, int c) {
        IntStream columns = IntStream.range(Math.max(0, c - 1), Math.min(3, c + 1));
        IntStream rows = IntStream.range(Math.max(0, r - 1), Math.min(3, r + 1));
        return IntStream.concat(columns.map(i -> r * 3 + i), rows.map(i -> 12 + i * 4 + c)).toArray();
    }

    /** At each of the 16 points each choice of its edges, with all other edges left open. */
    private static void noneOrTwoMeet() {
        for (int point = 0; point < 16; point++) {
            int[] edges = edgesAt(point / 4, point % 4);
            for (int choice = 0; choice < 1 << edges.length; choice++) {
                SlitherLoop x = new SlitherLoop();
                for (int i = 0; i < edges.length; i++) {
                    x.mark(edges[i], (choice >> i & 1) == 1 ? CHOSEN : CROSSED);
                }
                int meeting = Integer.bitCount(choice);
                due("whether there are solutions if " + meeting + " edges meet at point " + point,
                        x.solutions() > 0, meeting == 0 || meeting == 2);
            }
        }
    }

    /** Two cells that touch at a point alone: four edges meet there. */
    private static void cellsThatTouch() {
        int[][] pairs = {{0, 4}, {1, 3}, {1, 5}, {2, 4}, {3, 7}, {4, 6}, {4, 8}, {5, 7}};
        for (int[] pair : pairs) {
            due("solutions() with the edges of cells " + pair[0] + " and " + pair[1],
                    withAllMarks(sidesOfBoth(pair[0], pair[1])).solutions(), 0);
        }
    }

    private static int[] sidesOfBoth(int one, int other) {
        return together(sidesOf(one / 3, one % 3), sidesOf(other / 3, other % 3));
    }

    private static void oneSingleLoop() {
        for (int one = 0; one < 9; one++) {
            due("solutions() with the edges of cell " + one,
                    withAllMarks(sidesOf(one / 3, one % 3)).solutions(), 1);
            for (int other = one + 1; other < 9; other++) {
                boolean apart = other / 3 - one / 3 == 2 || Math.abs(other % 3 - one % 3) == 2;
                if (apart) {
                    due("solutions() with the edges of cells " + one + " and " + other,
                            withAllMarks(sidesOfBoth(one, other)).solutions(), 0);
                }
            }
        }
        int[] ring = {0, 1, 2, 4, 7, 9, 10, 11, 12, 15, 16, 17, 18, 19, 20, 23};
        due("solutions() with a loop inside the border", withAllMarks(ring).solutions(), 0);
        due("solutions() with the border alone", withAllMarks(BORDER).solutions(), 1);
        due("solutions() with a loop over all points", withAllMarks(LONGEST).solutions(), 1);
    }

    /** For each cell every clue keeps just the loops that choose as many of its edges. */
    private static void clueCounts() {
        for (int cell = 0; cell < 9; cell++) {
            int[] keeping = new int[5];
            for (int n = 0; n < LOOPS; n++) {
                keeping[clueThatHolds(cell, edgesOfLoop(n))]++;
            }
            for (int clue = 0; clue <= 4; clue++) {
                due("solutions() with clue " + clue + " in cell " + cell,
                        withClue(cell / 3, cell % 3, clue).solutions(), keeping[clue]);
            }
        }
    }

    /** The loops' edges 0 to 8 differ, so edge 8 is the last one that can decide. */
    private static void orderWithoutHints() {
        int decidedByFirst = 0;
        int decidedByLast = 0;
        for (int n = 1; n < LOOPS; n++) {
            SlitherLoop x = new SlitherLoop();
            int edge = 0;
            while (edge < 23 && x.chosen(n - 1, edge) == x.chosen(n, edge)) {
                edge++;
            }
            due("chosen(" + (n - 1) + ", " + edge + "), which decides", x.chosen(n - 1, edge), false);
            due("chosen(" + n + ", " + edge + "), which decides", x.chosen(n, edge), true);
            decidedByFirst += edge == 0 ? 1 : 0;
            decidedByLast += edge == 8 ? 1 : 0;
        }
        due("the count of neighbours that edge 0 decides", decidedByFirst, 1);
        due("the count of neighbours that edge 8 decides", decidedByLast, 84);
        dueEdges(new SlitherLoop(), 0, 8, 11, 22, 23);
        dueEdges(new SlitherLoop(), LOOPS - 1, 0, 1, 2, 3, 4, 5, 12, 15);
    }

    /** Both times the last edge that differs would decide otherwise, the second time the length too. */
    private static void orderOfTwoSolutions() {
        SlitherLoop byFirst = withAllMarks(1, 4, 14);
        takeMarksAway(byFirst, 0, 3, 12, 13);
        due("solutions() that differ by edge 0 first", byFirst.solutions(), 2);
        dueEdges(byFirst, 0, 1, 4, 13, 14);
        dueEdges(byFirst, 1, 0, 1, 3, 4, 12, 14);
        SlitherLoop byLast = withAllMarks(2, 14, 15, 18, 19);
        takeMarksAway(byLast, 8, 11, 22, 23);
        due("solutions() that differ by edge 8 first", byLast.solutions(), 2);
        dueEdges(byLast, 0, 2, 11, 14, 15, 18, 19, 22, 23);
        dueEdges(byLast, 1, 2, 8, 14, 15, 18, 19);
    }

    private static void askingChangesNothing() {
        changesNothing("solutions()", x -> x.solutions());
        changesNothing("decided()", x -> x.decided());
        changesNothing("shortest()", x -> x.shortest());
        for (int edge = 0; edge < 24; edge++) {
            int asked = edge;
            changesNothing("votes(" + asked + ")", x -> x.votes(asked));
            changesNothing("chosen(0, " + asked + ")", x -> x.chosen(0, asked));
        }
        for (int n : new int[] {-1, 0, 1, 25, 26, 211, 212, 213}) {
            changesNothing("length(" + n + ")", x -> x.length(n));
            changesNothing("inside(" + n + ")", x -> x.inside(n));
            changesNothing("chosen(" + n + ", 23)", x -> x.chosen(n, 23));
        }
    }

    // ---- Promise 1

    private static void newObjectIsEmpty() {
        SlitherLoop full = withAllHints(BORDER);
        SlitherLoop x = new SlitherLoop();
        dueNoHints(x, " of a new object beside one with all hints");
        due("solutions() of the one with all hints", full.solutions(), 1);
        SlitherLoop other = new SlitherLoop();
        x.clue(0, 0, 4);
        dueNoHints(other, " of a new object beside one with a clue");
    }

    // ---- Promise 2

    private static void leastAndGreatestClue() {
        for (int cell = 0; cell < 9; cell++) {
            int[] sides = sidesOf(cell / 3, cell % 3);
            SlitherLoop four = withClue(cell / 3, cell % 3, 4);
            due("solutions() with clue 4 in cell " + cell, four.solutions(), 1);
            dueEdges(four, 0, sides);
            SlitherLoop zero = withClue(cell / 3, cell % 3, 0);
            SlitherLoop crossed = withMarks(CROSSED, sides);
            due("solutions() with clue 0 in cell " + cell, zero.solutions(), crossed.solutions());
            for (int side : sides) {
                due("votes(" + side + ") with clue 0 in cell " + cell, zero.votes(side), 0);
            }
        }
    }

    /** All cells have clues at once, and each keeps its own. */
    private static void cluesInAllCells() {
        int[] want = {0, 1, 2, 3, 4, 3, 2, 1, 0};
        SlitherLoop x = new SlitherLoop();
        for (int cell = 0; cell < 9; cell++) {
            x.clue(cell / 3, cell % 3, want[cell]);
        }
        dueClues(x, " after all have been set", want);
    }

    private static void noClueTakesAway() {
        for (int cell = 0; cell < 9; cell++) {
            for (int clue = 0; clue <= 4; clue++) {
                SlitherLoop x = withClue(cell / 3, cell % 3, clue);
                due("clue(.., 5)", x.clue(cell / 3, cell % 3, NO_CLUE), clue);
                due("solutions() after NO_CLUE in cell " + cell, x.solutions(), LOOPS);
                due("clue(.., 5) again", x.clue(cell / 3, cell % 3, NO_CLUE), NO_CLUE);
                due("solutions() after NO_CLUE twice in cell " + cell, x.solutions(), LOOPS);
            }
        }
        SlitherLoop two = withoutSolutions();
        two.clue(0, 0, NO_CLUE);
        due("solutions() with the other clue left", two.solutions(), 1);
        dueEdges(two, 0, sidesOf(2, 2));
    }

    private static void rowOutside(int[] rows) {
        for (int row : rows) {
            for (int column = 0; column < 3; column++) {
                refusedClue(row, column, 3, BAD_CELL);
            }
            refusedClue(row, 0, 0, BAD_CELL);
            refusedClue(row, 1, NO_CLUE, BAD_CELL);
        }
    }

    private static void columnOutside(int[] columns) {
        for (int column : columns) {
            for (int row = 0; row < 3; row++) {
                refusedClue(row, column, 3, BAD_CELL);
            }
            refusedClue(0, column, 0, BAD_CELL);
            refusedClue(1, column, NO_CLUE, BAD_CELL);
        }
    }

    /** Some of these would be cells if only row * 3 + column were looked at. */
    private static void rowAndColumnOutside() {
        int[][] places = {{-1, 3}, {-1, 4}, {-1, -1}, {3, -1}, {3, -3}, {4, -4}, {3, 3}, {-2, 14},
            {Integer.MIN_VALUE, Integer.MAX_VALUE}, {Integer.MAX_VALUE, Integer.MIN_VALUE}};
        for (int[] place : places) {
            refusedClue(place[0], place[1], 3, BAD_CELL);
        }
    }

    private static void clueOutside(int[] clues) {
        for (int clue : clues) {
            refusedClue(0, 0, clue, BAD_VALUE);
            refusedClue(1, 1, clue, BAD_VALUE);
            refusedClue(2, 2, clue, BAD_VALUE);
            refusedClue(0, 1, clue, BAD_VALUE);
        }
    }

    private static void oldClueIsAnswered() {
        SlitherLoop x = new SlitherLoop();
        for (int cell = 0; cell < 9; cell++) {
            int old = NO_CLUE;
            for (int clue : new int[] {5, 0, 0, 4, 4, 0, 5, 5, 4, 1, 2, 3, 5}) {
                due("clue(.., " + clue + ") of cell " + cell, x.clue(cell / 3, cell % 3, clue), old);
                x.clue(cell / 3, cell % 3, 6);
                old = clue;
            }
        }
        x.clue(2, 2, 4);
        x.clear();
        due("clue(2, 2, 0) after clear()", x.clue(2, 2, 0), NO_CLUE);
    }

    // ---- Promise 3

    private static void openTakesAway() {
        for (int edge = 0; edge < 24; edge++) {
            for (int mark : new int[] {OPEN, CHOSEN, CROSSED}) {
                SlitherLoop x = withMarks(mark, edge);
                due("mark(" + edge + ", 0)", x.mark(edge, OPEN), mark);
                due("solutions() after OPEN on edge " + edge, x.solutions(), LOOPS);
            }
        }
        SlitherLoop two = withMarks(CHOSEN, 0, 23);
        two.mark(0, OPEN);
        due("solutions() with the other mark left", two.solutions(), withMarks(CHOSEN, 23).solutions());
    }

    private static void chosenMark() {
        for (int edge = 0; edge < 24; edge++) {
            SlitherLoop x = withMarks(CHOSEN, edge);
            int count = new SlitherLoop().votes(edge);
            due("solutions() with edge " + edge + " chosen", x.solutions(), count);
            due("votes(" + edge + ") with the edge chosen", x.votes(edge), count);
            x.mark(edge, CHOSEN);
            due("solutions() with edge " + edge + " chosen twice", x.solutions(), count);
        }
        due("solutions() with edge 0 chosen", withMarks(CHOSEN, 0).solutions(), 97);
        due("solutions() with edge 23 chosen", withMarks(CHOSEN, 23).solutions(), 97);
        int[] all = IntStream.range(0, 24).toArray();
        due("solutions() with all edges chosen", withMarks(CHOSEN, all).solutions(), 0);
    }

    private static void crossedMark() {
        for (int edge = 0; edge < 24; edge++) {
            SlitherLoop x = withMarks(CROSSED, edge);
            int count = LOOPS - new SlitherLoop().votes(edge);
            due("solutions() with edge " + edge + " crossed", x.solutions(), count);
            due("votes(" + edge + ") with the edge crossed", x.votes(edge), 0);
            x.mark(edge, CROSSED);
            due("solutions() with edge " + edge + " crossed twice", x.solutions(), count);
        }
        due("solutions() with edge 0 crossed", withMarks(CROSSED, 0).solutions(), 116);
        due("solutions() with edge 23 crossed", withMarks(CROSSED, 23).solutions(), 116);
    }

    private static void edgeOutside(int[] edges) {
        for (int edge : edges) {
            refusedMark(edge, CHOSEN, BAD_EDGE);
            refusedMark(edge, CROSSED, BAD_EDGE);
            refusedMark(edge, OPEN, BAD_EDGE);
        }
    }

    private static void markOutside(int[] marks) {
        for (int mark : marks) {
            for (int edge : new int[] {0, 10, 11, 12, 23}) {
                refusedMark(edge, mark, BAD_VALUE);
            }
        }
    }

    private static void oldMarkIsAnswered() {
        SlitherLoop x = new SlitherLoop();
        for (int edge = 0; edge < 24; edge++) {
            int old = OPEN;
            for (int mark : new int[] {0, 1, 1, 2, 2, 0, 2, 1, 0}) {
                due("mark(" + edge + ", " + mark + ")", x.mark(edge, mark), old);
                x.mark(edge, 3);
                old = mark;
            }
        }
        x.mark(23, CROSSED);
        x.clear();
        due("mark(23, 1) after clear()", x.mark(23, CHOSEN), OPEN);
    }

    // ---- Promise 4

    private static void clearTakesAllAway() {
        for (int number = 0; number < STATES.length; number++) {
            SlitherLoop x = state(number);
            x.clear();
            dueNoHints(x, " after clear() " + STATES[number]);
        }
        for (int cell = 0; cell < 9; cell++) {
            SlitherLoop x = withClue(cell / 3, cell % 3, 4);
            x.clear();
            dueNoHints(x, " after clear() with a clue in cell " + cell);
        }
        for (int edge = 0; edge < 24; edge++) {
            SlitherLoop x = withMarks(CROSSED, edge);
            x.clear();
            dueNoHints(x, " after clear() with a mark on edge " + edge);
        }
        SlitherLoop twice = withAllHints(LONGEST);
        twice.clear();
        twice.clear();
        dueNoHints(twice, " after clear() twice");
    }

    // ---- Promises 5 and 6

    private static void solutionsWithoutHints() {
        due("solutions()", new SlitherLoop().solutions(), 213);
        SlitherLoop x = withAllHints(BORDER);
        for (int cell = 0; cell < 9; cell++) {
            x.clue(cell / 3, cell % 3, NO_CLUE);
        }
        takeMarksAway(x, IntStream.range(0, 24).toArray());
        due("solutions() after all hints have been taken away", x.solutions(), 213);
    }

    /** With all hints of a loop it alone is left, and with one hint changed not even that. */
    private static void oneSolutionOrNone() {
        for (int n = 0; n < LOOPS; n++) {
            int[] edges = edgesOfLoop(n);
            SlitherLoop x = withAllHints(edges);
            due("solutions() with all hints of loop " + n, x.solutions(), 1);
            dueEdges(x, 0, edges);
            int old = x.mark(n % 24, OPEN);
            x.mark(n % 24, old == CHOSEN ? CROSSED : CHOSEN);
            due("solutions() with one mark changed for loop " + n, x.solutions(), 0);
            x.mark(n % 24, old);
            int clue = x.clue(n % 3, n / 3 % 3, NO_CLUE);
            x.clue(n % 3, n / 3 % 3, (clue + 1) % 5);
            due("solutions() with one clue changed for loop " + n, x.solutions(), 0);
        }
    }

    private static void votesOfNoneAndAll() {
        SlitherLoop border = withAllHints(BORDER);
        SlitherLoop none = withoutSolutions();
        SlitherLoop free = new SlitherLoop();
        for (int edge = 0; edge < 24; edge++) {
            due("votes(" + edge + ") of the border", border.votes(edge), isIn(BORDER, edge) ? 1 : 0);
            due("votes(" + edge + ") without solutions", none.votes(edge), 0);
            int count = 0;
            for (int n = 0; n < LOOPS; n++) {
                count += isIn(edgesOfLoop(n), edge) ? 1 : 0;
            }
            due("votes(" + edge + ") without hints", free.votes(edge), count);
        }
        due("votes(0) without hints", free.votes(0), 97);
        due("votes(23) without hints", free.votes(23), 97);
    }

    private static void votesOutside(int[] edges) {
        for (int edge : edges) {
            refused("votes(" + edge + ")", x -> x.votes(edge), BAD_EDGE);
        }
    }

    // ---- Promises 7, 8 and 9

    private static void numbersFromZero() {
        SlitherLoop one = withAllHints(LONGEST);
        dueEdges(one, 0, LONGEST);
        dueEdges(one, 1);
        SlitherLoop free = new SlitherLoop();
        dueEdges(free, 0, 8, 11, 22, 23);
        dueEdges(free, 1, 7, 10, 21, 22);
        dueEdges(free, 211, 0, 1, 2, 3, 4, 6, 7, 9, 10, 11, 12, 15, 18, 19, 20, 23);
        dueEdges(free, 212, 0, 1, 2, 3, 4, 5, 12, 15);
        SlitherLoop some = withSomeHints();
        due("chosen(25, 10), the last one", some.chosen(25, 10), true);
        due("chosen(26, 10), behind the last one", some.chosen(26, 10), false);
    }

    private static void noSuchSolution() {
        for (int n : outside(LOOPS)) {
            for (int edge : new int[] {0, 1, 10, 23}) {
                refusedChosen(n, edge);
            }
        }
        dueEdges(withSomeHints(), 26);
        dueEdges(withClue(0, 1, 4), 1);
        dueEdges(withoutSolutions(), 0);
    }

    private static void noSuchEdge() {
        for (int edge : outside(24)) {
            SlitherLoop x = new SlitherLoop();
            for (int n = 0; n < LOOPS; n++) {
                due("chosen(" + n + ", " + edge + ")", x.chosen(n, edge), false);
            }
            refusedChosen(0, edge);
        }
    }

    private static void neitherSolutionNorEdge() {
        for (int bad : outside(LOOPS)) {
            refusedChosen(bad, -1);
            refusedChosen(bad, 24);
            refusedChosen(bad, bad);
        }
    }

    private static void shortAndLongLoops() {
        int least = 99;
        int greatest = 0;
        for (int n = 0; n < LOOPS; n++) {
            int length = new SlitherLoop().length(n);
            due("length(" + n + ")", length, edgesOfLoop(n).length);
            least = Math.min(least, length);
            greatest = Math.max(greatest, length);
        }
        due("the least length", least, 4);
        due("the greatest length", greatest, 16);
        due("length(0) of a loop over all points", withAllHints(LONGEST).length(0), 16);
        due("length(0) of the last cell alone", withClue(2, 2, 4).length(0), 4);
    }

    private static void noLength() {
        for (int n : outside(LOOPS)) {
            refused("length(" + n + ")", x -> x.length(n), 0);
        }
        due("length(25), the last one", withSomeHints().length(25) > 0, true);
        due("length(26), behind the last one", withSomeHints().length(26), 0);
        due("length(1) of one solution", withClue(0, 1, 4).length(1), 0);
        due("length(0) without solutions", withoutSolutions().length(0), 0);
    }

    /** A cell is inside if the way from it up to the outside crosses the loop an odd number of times. */
    private static int cellsInside(int[] edges) {
        int inside = 0;
        for (int cell = 0; cell < 9; cell++) {
            int crossed = 0;
            for (int above = cell; above >= 0; above -= 3) {
                crossed += isIn(edges, above) ? 1 : 0;
            }
            inside += crossed % 2;
        }
        return inside;
    }

    private static void fewAndManyCells() {
        for (int n = 0; n < LOOPS; n++) {
            due("inside(" + n + ")", new SlitherLoop().inside(n), cellsInside(edgesOfLoop(n)));
        }
        for (int cell = 0; cell < 9; cell++) {
            due("inside(0) of cell " + cell + " alone", withClue(cell / 3, cell % 3, 4).inside(0), 1);
        }
        due("inside(0) of the border", withAllHints(BORDER).inside(0), 9);
        due("inside(0) of a loop over all points", withAllHints(LONGEST).inside(0), 7);
        int[] cut = {1, 2, 3, 9, 10, 11, 13, 15, 16, 19, 20, 23};
        due("inside(0) of all cells but one", withAllHints(cut).inside(0), 8);
    }

    private static void noInside() {
        for (int n : outside(LOOPS)) {
            refused("inside(" + n + ")", x -> x.inside(n), 0);
        }
        due("inside(25), the last one", withSomeHints().inside(25) > 0, true);
        due("inside(26), behind the last one", withSomeHints().inside(26), 0);
        due("inside(1) of one solution", withClue(0, 1, 4).inside(1), 0);
        due("inside(0) without solutions", withoutSolutions().inside(0), 0);
    }

    // ---- Promises 10 and 11

    /** One, two or three cells of the last row, always with the last one. */
    private static SlitherLoop inTheLastRow() {
        SlitherLoop x = withAllMarks(8, 11, 23);
        takeMarksAway(x, 6, 7, 9, 10, 20, 21, 22);
        return x;
    }

    private static void decidedEdges() {
        due("decided() without hints", new SlitherLoop().decided(), 0);
        due("decided() of one solution", withClue(0, 1, 4).decided(), 24);
        due("decided() with an edge in all solutions", withMarks(CHOSEN, 17).decided(), 1);
        due("decided() with an edge in no solution", withMarks(CROSSED, 17).decided(), 1);
        // Two solutions, of which just one chooses each of the edges 7, 10, 21 and 22.
        SlitherLoop two = withAllMarks(8, 11, 23);
        takeMarksAway(two, 7, 10, 21, 22);
        due("solutions() that differ by four edges", two.solutions(), 2);
        due("decided() of solutions that differ by four edges", two.decided(), 20);
        // An edge that all solutions but one choose, and one that a single solution chooses.
        SlitherLoop three = inTheLastRow();
        due("solutions() in the last row", three.solutions(), 3);
        due("votes(7) in the last row", three.votes(7), 2);
        due("votes(6) in the last row", three.votes(6), 1);
        due("decided() in the last row", three.decided(), 17);
    }

    private static void decidedWithoutSolutions() {
        due("decided() with clues that exclude each other", withoutSolutions().decided(), 0);
        due("decided() with all edges crossed", withAllMarks().decided(), 0);
        SlitherLoop x = withAllHints(BORDER);
        x.mark(23, CROSSED);
        due("decided() with all hints and one of them wrong", x.decided(), 0);
    }

    private static void shortestOfAll() {
        due("shortest() without hints", new SlitherLoop().shortest(), 4);
        due("shortest() of one cell", withClue(2, 2, 4).shortest(), 4);
        due("shortest() of a loop over all points", withAllHints(LONGEST).shortest(), 16);
        // The shortest one is the last of three solutions, then the first of three.
        SlitherLoop last = withAllMarks(0, 1, 2, 12, 15);
        takeMarksAway(last, 3, 4, 5, 6, 7, 8, 9, 10, 11, 16, 19, 20, 23);
        due("solutions() of whole rows", last.solutions(), 3);
        due("length(0) of whole rows", last.length(0), 12);
        due("length(2) of whole rows", last.length(2), 8);
        due("shortest() as the last of three", last.shortest(), 8);
        SlitherLoop first = inTheLastRow();
        due("length(0) in the last row", first.length(0), 4);
        due("shortest() as the first of three", first.shortest(), 4);
    }

    private static void shortestWithoutSolutions() {
        due("shortest() with clues that exclude each other", withoutSolutions().shortest(), 0);
        due("shortest() with all edges crossed", withAllMarks().shortest(), 0);
        SlitherLoop x = withAllHints(LONGEST);
        x.clue(1, 1, 4);
        due("shortest() with all hints and one of them wrong", x.shortest(), 0);
    }

    // ---- Promise 12

    private static void cellBeforeValue() {
        for (int clue : outside(6)) {
            refusedClue(-1, 0, clue, BAD_CELL);
            refusedClue(3, 2, clue, BAD_CELL);
            refusedClue(0, -1, clue, BAD_CELL);
            refusedClue(2, 3, clue, BAD_CELL);
        }
    }

    private static void edgeBeforeValue() {
        for (int mark : outside(3)) {
            refusedMark(-1, mark, BAD_EDGE);
            refusedMark(24, mark, BAD_EDGE);
        }
    }

    // ---- The sentences

    private static void testTerms() {
        test("What it is", "An object is used for at most 512 calls", BoundaryTest::callsOfAllKinds);
        test("What it is", "at most 512 calls, all of one kind", BoundaryTest::callsOfOneKind);
        test("Terms", "edge r * 3 + c is the horizontal one above cell (r, c)", BoundaryTest::horizontalEdges);
        test("Terms", "r 3: below cell (2, c)", BoundaryTest::lastRowOfEdges);
        test("Terms", "edge 12 + r * 4 + c is the vertical one to the left of cell (r, c)",
                BoundaryTest::verticalEdges);
        test("Terms", "c 3: to the right of cell (r, 2)", BoundaryTest::lastColumnOfEdges);
        test("Terms", "at least one", BoundaryTest::atLeastOneEdge);
        test("Terms", "at every point none or exactly two of the chosen edges meet", BoundaryTest::noneOrTwoMeet);
        test("Terms", "none or exactly two meet, not four", BoundaryTest::cellsThatTouch);
        test("Terms", "one can go from every chosen edge to every other one", BoundaryTest::oneSingleLoop);
        test("Terms", "a CLUE in a cell says how many of its four edges are chosen", BoundaryTest::clueCounts);
        test("Terms", "the first edge, by number, that one chooses and the other doesn't decides",
                BoundaryTest::orderWithoutHints);
        test("Terms", "the one that doesn't choose it comes first", BoundaryTest::orderOfTwoSolutions);
        test("Terms", "The calls below change nothing that any call answers", BoundaryTest::askingChangesNothing);
    }

    private static void testHints() {
        test("Promise 1", "No clues, no marks", BoundaryTest::newObjectIsEmpty);
        test("Promise 2", "Sets the clue of a cell, 0 to 4", BoundaryTest::leastAndGreatestClue);
        test("Promise 2", "Sets the clue of a cell, in all cells", BoundaryTest::cluesInAllCells);
        test("Promise 2", "or takes it away, NO_CLUE", BoundaryTest::noClueTakesAway);
        test("Promise 2", "row not in 0 to 2, too small: BAD_CELL", () -> rowOutside(TOO_SMALL));
        test("Promise 2", "row not in 0 to 2, too large: BAD_CELL", () -> rowOutside(tooLarge(3)));
        test("Promise 2", "column not in 0 to 2, too small: BAD_CELL", () -> columnOutside(TOO_SMALL));
        test("Promise 2", "column not in 0 to 2, too large: BAD_CELL", () -> columnOutside(tooLarge(3)));
        test("Promise 2", "row and column not in 0 to 2: BAD_CELL", BoundaryTest::rowAndColumnOutside);
        test("Promise 2", "clue not in 0 to 5, too small: BAD_VALUE", () -> clueOutside(TOO_SMALL));
        test("Promise 2", "clue not in 0 to 5, too large: BAD_VALUE", () -> clueOutside(tooLarge(6)));
        test("Promise 2", "Else answers the old one (NO_CLUE if none)", BoundaryTest::oldClueIsAnswered);
        test("Promise 3", "OPEN takes it away", BoundaryTest::openTakesAway);
        test("Promise 3", "CHOSEN: the edge is chosen", BoundaryTest::chosenMark);
        test("Promise 3", "CROSSED: it is not", BoundaryTest::crossedMark);
        test("Promise 3", "edge not in 0 to 23, too small: BAD_EDGE", () -> edgeOutside(TOO_SMALL));
        test("Promise 3", "edge not in 0 to 23, too large: BAD_EDGE", () -> edgeOutside(tooLarge(24)));
        test("Promise 3", "mark not in 0 to 2, too small: BAD_VALUE", () -> markOutside(TOO_SMALL));
        test("Promise 3", "mark not in 0 to 2, too large: BAD_VALUE", () -> markOutside(tooLarge(3)));
        test("Promise 3", "Else answers the old one", BoundaryTest::oldMarkIsAnswered);
        test("Promise 4", "Takes all clues and marks away", BoundaryTest::clearTakesAllAway);
        test("Promise 12", "clue: BAD_CELL is tested before BAD_VALUE", BoundaryTest::cellBeforeValue);
        test("Promise 12", "mark: BAD_EDGE is tested before BAD_VALUE", BoundaryTest::edgeBeforeValue);
    }

    private static void testQuestions() {
        test("Promise 5", "213 without hints", BoundaryTest::solutionsWithoutHints);
        test("Promise 5", "How many solutions there are, one or none", BoundaryTest::oneSolutionOrNone);
        test("Promise 6", "In how many solutions the edge is chosen", BoundaryTest::votesOfNoneAndAll);
        test("Promise 6", "too small: BAD_EDGE", () -> votesOutside(TOO_SMALL));
        test("Promise 6", "too large: BAD_EDGE", () -> votesOutside(tooLarge(24)));
        test("Promise 7", "solution number n, from 0", BoundaryTest::numbersFromZero);
        test("Promise 7", "false if there is no such solution", BoundaryTest::noSuchSolution);
        test("Promise 7", "false if there is no such edge", BoundaryTest::noSuchEdge);
        test("Promise 7", "false if there is neither", BoundaryTest::neitherSolutionNorEdge);
        test("Promise 8", "How many edges solution number n chooses", BoundaryTest::shortAndLongLoops);
        test("Promise 8", "0 if there is none", BoundaryTest::noLength);
        test("Promise 9", "How many cells lie inside the loop", BoundaryTest::fewAndManyCells);
        test("Promise 9", "0 if there is none", BoundaryTest::noInside);
        test("Promise 10", "chosen in all solutions or in none of them", BoundaryTest::decidedEdges);
        test("Promise 10", "0 if there are no solutions", BoundaryTest::decidedWithoutSolutions);
        test("Promise 11", "The least number of edges that a solution chooses", BoundaryTest::shortestOfAll);
        test("Promise 11", "0 if there are no solutions", BoundaryTest::shortestWithoutSolutions);
    }

    public static void main(String[] args) {
        testTerms();
        testHints();
        testQuestions();
        System.out.println("sentences: " + passed + " passed, " + failed + " failed");
        if (failed != 0) {
            System.exit(1);
        }
    }
}

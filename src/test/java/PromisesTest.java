/**
 * Each promise of the document: ordinary inputs, the edges it names, and wrong inputs. No object is
 * called more than 512 times, because what later calls answer is free.
 */
public final class PromisesTest {
    private static final int LOOPS = 213;
    private static final int[] NO_INDEX = {-1, Integer.MIN_VALUE, Integer.MAX_VALUE};
    // The last ones would be edges again if only their lowest bits were looked at.
    private static final int[] NO_EDGE = {-1, 24, 25, 31, 32, 35, 64, -32, -24, Integer.MIN_VALUE, Integer.MAX_VALUE};

    private static int wrong = 0;
    private static String promise = "";

    private static void due(String call, long got, long want) {
        if (got != want) {
            wrong++;
            System.out.println(promise + ": " + call + " answered " + got + ", due is " + want);
        }
    }

    private static void due(String call, boolean got, boolean want) {
        due(call, got ? 1 : 0, want ? 1 : 0);
    }

    /** The edges that solution n chooses must be just these. */
    private static void dueEdges(SlitherLoop x, int n, int... want) {
        for (int edge = 0; edge < 24; edge++) {
            boolean wanted = false;
            for (int one : want) {
                wanted |= one == edge;
            }
            due("chosen(" + n + ", " + edge + ")", x.chosen(n, edge), wanted);
        }
    }

    private static SlitherLoop withClue(int row, int column, int clue) {
        SlitherLoop x = new SlitherLoop();
        x.clue(row, column, clue);
        return x;
    }

    private static SlitherLoop withMarks(int mark, int... edges) {
        SlitherLoop x = new SlitherLoop();
        for (int edge : edges) {
            x.mark(edge, mark);
        }
        return x;
    }

    /** A clue 4 makes the loop around that cell the only solution; a second one leaves none. */
    private static SlitherLoop withoutSolution() {
        SlitherLoop x = withClue(0, 0, 4);
        x.clue(2, 2, 4);
        return x;
    }

    private static void newObject() {
        promise = "promise 1";
        SlitherLoop x = new SlitherLoop();
        due("solutions()", x.solutions(), LOOPS);
        for (int cell = 0; cell < 9; cell++) {
            due("first clue of cell " + cell, x.clue(cell / 3, cell % 3, 2), SlitherLoop.NO_CLUE);
        }
        for (int edge = 0; edge < 24; edge++) {
            due("first mark of edge " + edge, x.mark(edge, SlitherLoop.CHOSEN), SlitherLoop.OPEN);
        }
        SlitherLoop other = new SlitherLoop();
        due("solutions() of a second object", other.solutions(), LOOPS);
        due("clue of a second object", other.clue(0, 0, 1), SlitherLoop.NO_CLUE);
        due("mark of a second object", other.mark(0, 1), SlitherLoop.OPEN);
    }

    private static void clueAnswersTheOldOne() {
        promise = "promise 2";
        SlitherLoop x = new SlitherLoop();
        for (int cell = 0; cell < 9; cell++) {
            int old = SlitherLoop.NO_CLUE;
            for (int clue : new int[] {0, 1, 2, 3, 4, 5, 5, 4, 4, cell % 5}) {
                due("clue of cell " + cell, x.clue(cell / 3, cell % 3, clue), old);
                old = clue;
            }
        }
        for (int cell = 0; cell < 9; cell++) {
            due("kept clue of cell " + cell, x.clue(cell / 3, cell % 3, SlitherLoop.NO_CLUE), cell % 5);
        }
        due("solutions() with all clues taken away", x.solutions(), LOOPS);
    }

    private static void clueCountsChosenEdges() {
        promise = "promise 2";
        int total = 0;
        for (int clue = 0; clue <= 4; clue++) {
            SlitherLoop x = withClue(1, 2, clue);
            int count = x.solutions();
            total += count;
            for (int n = 0; n < count; n++) {
                int around = 0;
                for (int edge : new int[] {5, 8, 18, 19}) {
                    around += x.chosen(n, edge) ? 1 : 0;
                }
                due("edges around (1, 2) in solution " + n, around, clue);
            }
        }
        due("solutions of all clues together", total, LOOPS);
        due("solutions() with clue 4", withClue(0, 1, 4).solutions(), 1);
        due("solutions() with clue 0", withClue(0, 1, 0).solutions(), 15);
        due("solutions() with clue 1", withClue(1, 0, 1).solutions(), 62);
        due("solutions() with clue 2", withClue(1, 1, 2).solutions(), 80);
        dueEdges(withClue(0, 0, 4), 0, 0, 3, 12, 13);
        dueEdges(withClue(0, 2, 4), 0, 2, 5, 14, 15);
        dueEdges(withClue(1, 1, 4), 0, 4, 7, 17, 18);
        dueEdges(withClue(2, 0, 4), 0, 6, 9, 20, 21);
        dueEdges(withClue(2, 2, 4), 0, 8, 11, 22, 23);
    }

    private static void wrongClueChangesNothing() {
        promise = "promise 2";
        SlitherLoop x = withClue(1, 1, 2);
        for (int bad : new int[] {-1, 3, 4, Integer.MIN_VALUE, Integer.MAX_VALUE}) {
            due("clue(" + bad + ", 1, 3)", x.clue(bad, 1, 3), SlitherLoop.BAD_CELL);
            due("clue(1, " + bad + ", 3)", x.clue(1, bad, 3), SlitherLoop.BAD_CELL);
            due("clue(" + bad + ", " + bad + ", 3)", x.clue(bad, bad, 3), SlitherLoop.BAD_CELL);
        }
        // Row and column that are wrong, but whose sum would be a cell.
        due("clue(0, 4, 3)", x.clue(0, 4, 3), SlitherLoop.BAD_CELL);
        due("clue(2, -2, 3)", x.clue(2, -2, 3), SlitherLoop.BAD_CELL);
        for (int bad : new int[] {-1, 6, Integer.MIN_VALUE, Integer.MAX_VALUE}) {
            due("clue(1, 1, " + bad + ")", x.clue(1, 1, bad), SlitherLoop.BAD_VALUE);
        }
        due("solutions() after wrong clues", x.solutions(), 80);
        for (int cell = 0; cell < 9; cell++) {
            int want = cell == 4 ? 2 : SlitherLoop.NO_CLUE;
            due("clue of cell " + cell + " after wrong clues", x.clue(cell / 3, cell % 3, 5), want);
        }
    }

    private static void markAnswersTheOldOne() {
        promise = "promise 3";
        SlitherLoop x = new SlitherLoop();
        for (int edge = 0; edge < 24; edge++) {
            int old = SlitherLoop.OPEN;
            for (int mark : new int[] {0, 1, 2, 2, 1, 1, 0, 2, 0, edge % 3}) {
                due("mark of edge " + edge, x.mark(edge, mark), old);
                old = mark;
            }
        }
        for (int edge = 0; edge < 24; edge++) {
            due("kept mark of edge " + edge, x.mark(edge, SlitherLoop.OPEN), edge % 3);
        }
        due("solutions() with all marks taken away", x.solutions(), LOOPS);
    }

    private static void markBindsTheEdge() {
        promise = "promise 3";
        SlitherLoop free = new SlitherLoop();
        for (int edge = 0; edge < 24; edge++) {
            SlitherLoop with = withMarks(SlitherLoop.CHOSEN, edge);
            SlitherLoop without = withMarks(SlitherLoop.CROSSED, edge);
            due("solutions() with edge " + edge, with.solutions(), free.votes(edge));
            due("votes of chosen edge " + edge, with.votes(edge), free.votes(edge));
            due("solutions() without edge " + edge, without.solutions(), LOOPS - free.votes(edge));
            due("votes of crossed edge " + edge, without.votes(edge), 0);
        }
        due("solutions() with edge 12", withMarks(SlitherLoop.CHOSEN, 12).solutions(), 97);
        // No loop goes through a corner by one of its two edges alone.
        SlitherLoop corner = withMarks(SlitherLoop.CHOSEN, 0);
        corner.mark(12, SlitherLoop.CROSSED);
        due("solutions() with half a corner", corner.solutions(), 0);
    }

    private static void wrongMarkChangesNothing() {
        promise = "promise 3";
        SlitherLoop x = withMarks(SlitherLoop.CHOSEN, 12);
        for (int bad : NO_EDGE) {
            due("mark(" + bad + ", 2)", x.mark(bad, 2), SlitherLoop.BAD_EDGE);
        }
        for (int bad : new int[] {-1, 3, 4, Integer.MIN_VALUE, Integer.MAX_VALUE}) {
            due("mark(12, " + bad + ")", x.mark(12, bad), SlitherLoop.BAD_VALUE);
        }
        due("solutions() after wrong marks", x.solutions(), 97);
        for (int edge = 0; edge < 24; edge++) {
            due("mark of edge " + edge + " after wrong marks", x.mark(edge, 0), edge == 12 ? 1 : 0);
        }
    }

    private static void clearTakesAllAway() {
        promise = "promise 4";
        SlitherLoop x = new SlitherLoop();
        x.clear();
        due("solutions() after clear() of a new object", x.solutions(), LOOPS);
        for (int cell = 0; cell < 9; cell++) {
            x.clue(cell / 3, cell % 3, cell % 5);
        }
        for (int edge = 0; edge < 24; edge++) {
            x.mark(edge, 1 + edge % 2);
        }
        due("solutions() before clear()", x.solutions(), 0);
        x.clear();
        due("solutions() after clear()", x.solutions(), LOOPS);
        for (int cell = 0; cell < 9; cell++) {
            due("clue of cell " + cell + " after clear()", x.clue(cell / 3, cell % 3, 5), SlitherLoop.NO_CLUE);
        }
        for (int edge = 0; edge < 24; edge++) {
            due("mark of edge " + edge + " after clear()", x.mark(edge, 0), SlitherLoop.OPEN);
        }
    }

    private static void solutionsAreCounted() {
        promise = "promise 5";
        due("solutions() without hints", new SlitherLoop().solutions(), LOOPS);
        due("solutions() of two clues 4", withoutSolution().solutions(), 0);
        // Two cells that touch at a point only would be two loops, or one that meets itself.
        SlitherLoop touching = withMarks(SlitherLoop.CHOSEN, 3, 13, 4, 17);
        due("solutions() with four edges at a point", touching.solutions(), 0);
        // The ring around the middle cell and the border are two loops.
        SlitherLoop ring = withMarks(SlitherLoop.CHOSEN, 0, 1, 2, 9, 10, 11, 12, 16, 20, 15, 19, 23);
        due("solutions() with the border", ring.solutions(), 1);
        ring.mark(4, SlitherLoop.CHOSEN);
        due("solutions() with the border and an edge inside", ring.solutions(), 0);
        // Choosing no edge at all is no solution.
        SlitherLoop empty = new SlitherLoop();
        for (int edge = 0; edge < 24; edge++) {
            empty.mark(edge, SlitherLoop.CROSSED);
        }
        due("solutions() with all edges crossed", empty.solutions(), 0);
        SlitherLoop zeros = new SlitherLoop();
        for (int cell = 0; cell < 9; cell++) {
            zeros.clue(cell / 3, cell % 3, 0);
        }
        due("solutions() with all clues 0", zeros.solutions(), 0);
    }

    private static void votesAreCounted() {
        promise = "promise 6";
        SlitherLoop x = new SlitherLoop();
        due("votes(12) without hints", x.votes(12), 97);
        for (int edge = 0; edge < 24; edge++) {
            SlitherLoop asked = new SlitherLoop();
            int count = 0;
            for (int n = 0; n < LOOPS; n++) {
                count += asked.chosen(n, edge) ? 1 : 0;
            }
            due("votes(" + edge + ")", asked.votes(edge), count);
        }
        SlitherLoop one = withClue(0, 1, 4);
        for (int edge = 0; edge < 24; edge++) {
            boolean around = edge == 1 || edge == 4 || edge == 13 || edge == 14;
            due("votes(" + edge + ") of one solution", one.votes(edge), around ? 1 : 0);
        }
        SlitherLoop none = withoutSolution();
        due("votes(0) without solutions", none.votes(0), 0);
        due("votes(23) without solutions", none.votes(23), 0);
        for (int bad : NO_EDGE) {
            due("votes(" + bad + ")", x.votes(bad), SlitherLoop.BAD_EDGE);
            due("votes(" + bad + ") without solutions", none.votes(bad), SlitherLoop.BAD_EDGE);
        }
    }

    private static void chosenTellsTheEdges() {
        promise = "promise 7";
        SlitherLoop x = new SlitherLoop();
        // The first ones choose none of the edges above rows 0 and 1, then as late ones as can be.
        dueEdges(x, 0, 8, 11, 22, 23);
        dueEdges(x, 1, 7, 10, 21, 22);
        dueEdges(x, 2, 7, 8, 10, 11, 21, 23);
        // The last one: edges 0 to 2, then as many early ones as can be.
        dueEdges(x, 212, 0, 1, 2, 3, 4, 5, 12, 15);
        dueEdges(x, LOOPS);
        for (int bad : NO_INDEX) {
            dueEdges(x, bad);
        }
        for (int bad : NO_EDGE) {
            SlitherLoop asked = new SlitherLoop();
            for (int n = -1; n <= LOOPS; n++) {
                due("chosen(" + n + ", " + bad + ")", asked.chosen(n, bad), false);
            }
        }
        dueEdges(withClue(0, 1, 4), 0, 1, 4, 13, 14);
        dueEdges(withClue(0, 1, 4), 1);
        dueEdges(withoutSolution(), 0);
    }

    private static void solutionsAreOrdered() {
        promise = "promise 7";
        for (int n = 1; n < LOOPS; n++) {
            SlitherLoop x = new SlitherLoop();
            int edge = 0;
            while (edge < 23 && x.chosen(n - 1, edge) == x.chosen(n, edge)) {
                edge++;
            }
            due("chosen(" + (n - 1) + ", " + edge + ")", x.chosen(n - 1, edge), false);
            due("chosen(" + n + ", " + edge + ")", x.chosen(n, edge), true);
        }
    }

    private static void lengthIsCounted() {
        promise = "promise 8";
        SlitherLoop x = new SlitherLoop();
        for (int n = 0; n < LOOPS; n++) {
            SlitherLoop asked = new SlitherLoop();
            int count = 0;
            for (int edge = 0; edge < 24; edge++) {
                count += asked.chosen(n, edge) ? 1 : 0;
            }
            due("length(" + n + ")", asked.length(n), count);
        }
        due("length(0)", x.length(0), 4);
        due("length(2)", x.length(2), 6);
        due("length(212)", x.length(212), 8);
        due("length(213)", x.length(LOOPS), 0);
        for (int bad : NO_INDEX) {
            due("length(" + bad + ")", x.length(bad), 0);
        }
        due("length(1) of one solution", withClue(1, 1, 4).length(1), 0);
        due("length(0) without solutions", withoutSolution().length(0), 0);
    }

    private static void insideIsCounted() {
        promise = "promise 9";
        SlitherLoop x = new SlitherLoop();
        due("inside(0)", x.inside(0), 1);
        due("inside(2)", x.inside(2), 2);
        due("inside(212)", x.inside(212), 3);
        due("inside(213)", x.inside(LOOPS), 0);
        for (int bad : NO_INDEX) {
            due("inside(" + bad + ")", x.inside(bad), 0);
        }
        due("inside(0) of one cell", withClue(1, 1, 4).inside(0), 1);
        due("inside(1) of one solution", withClue(1, 1, 4).inside(1), 0);
        due("inside(0) without solutions", withoutSolution().inside(0), 0);
        SlitherLoop border = withMarks(SlitherLoop.CHOSEN, 0, 1, 2, 9, 10, 11, 12, 16, 20, 15, 19, 23);
        due("inside(0) of the border", border.inside(0), 9);
        // As long as the border, with a cell less inside: the length doesn't tell the cells.
        SlitherLoop cut = withMarks(SlitherLoop.CHOSEN, 1, 2, 3, 9, 10, 11, 13, 15, 16, 19, 20, 23);
        due("inside(0) without a corner", cut.inside(0), 8);
        SlitherLoop shapeC = withMarks(SlitherLoop.CHOSEN, 0, 1, 2, 4, 5, 7, 8, 9, 10, 11, 12, 15, 16, 17, 20, 23);
        due("inside(0) of a C", shapeC.inside(0), 7);
        due("length(0) of a C", shapeC.length(0), 16);
    }

    private static void decidedIsCounted() {
        promise = "promise 10";
        due("decided() without hints", new SlitherLoop().decided(), 0);
        due("decided() of one solution", withClue(2, 1, 4).decided(), 24);
        due("decided() without solutions", withoutSolution().decided(), 0);
        // A chosen corner edge takes the other one of its corner with it; so does a crossed one.
        due("decided() with a chosen corner", withMarks(SlitherLoop.CHOSEN, 0).decided(), 2);
        due("decided() with a crossed corner", withMarks(SlitherLoop.CROSSED, 11).decided(), 2);
        due("decided() with a middle edge", withMarks(SlitherLoop.CHOSEN, 17).decided(), 1);
    }

    private static void shortestIsFound() {
        promise = "promise 11";
        due("shortest() without hints", new SlitherLoop().shortest(), 4);
        due("shortest() without solutions", withoutSolution().shortest(), 0);
        due("shortest() with two edges in a line", withMarks(SlitherLoop.CHOSEN, 0, 1).shortest(), 6);
        due("shortest() with three edges in a line", withMarks(SlitherLoop.CHOSEN, 0, 1, 2).shortest(), 8);
        due("shortest() with two corners", withMarks(SlitherLoop.CHOSEN, 0, 11).shortest(), 12);
        // Here the first solution is not the shortest one.
        SlitherLoop x = withClue(0, 1, 2);
        x.clue(1, 2, 1);
        x.mark(13, SlitherLoop.CHOSEN);
        due("shortest() of 11 solutions", x.shortest(), 8);
    }

    private static void orderOfTests() {
        promise = "promise 12";
        SlitherLoop x = new SlitherLoop();
        for (int badValue : new int[] {-1, 6, Integer.MIN_VALUE, Integer.MAX_VALUE}) {
            due("clue(3, 0, " + badValue + ")", x.clue(3, 0, badValue), SlitherLoop.BAD_CELL);
            due("clue(0, -1, " + badValue + ")", x.clue(0, -1, badValue), SlitherLoop.BAD_CELL);
            due("clue(2, 2, " + badValue + ")", x.clue(2, 2, badValue), SlitherLoop.BAD_VALUE);
            due("mark(24, " + badValue + ")", x.mark(24, badValue), SlitherLoop.BAD_EDGE);
            due("mark(-1, " + badValue + ")", x.mark(-1, badValue), SlitherLoop.BAD_EDGE);
            due("mark(23, " + badValue + ")", x.mark(23, badValue), SlitherLoop.BAD_VALUE);
        }
        due("solutions() after wrong calls", x.solutions(), LOOPS);
    }

    private static void askingChangesNothing() {
        promise = "the calls that change nothing";
        SlitherLoop x = withClue(1, 1, 2);
        x.mark(10, SlitherLoop.CHOSEN);
        for (int round = 0; round < 3; round++) {
            due("solutions()", x.solutions(), 40);
            due("votes(10)", x.votes(10), 40);
            due("votes(24)", x.votes(24), SlitherLoop.BAD_EDGE);
            due("chosen(0, 10)", x.chosen(0, 10), true);
            due("chosen(40, 10)", x.chosen(40, 10), false);
            due("length(40)", x.length(40), 0);
            due("inside(40)", x.inside(40), 0);
            x.decided();
            x.shortest();
        }
        due("clue(1, 1, 5)", x.clue(1, 1, 5), 2);
        due("mark(10, 0)", x.mark(10, 0), SlitherLoop.CHOSEN);
        due("solutions()", x.solutions(), LOOPS);
    }

    private static void exampleOfReadme() {
        promise = "README.md";
        SlitherLoop puzzle = new SlitherLoop();
        due("solutions()", puzzle.solutions(), 213);
        due("clue(1, 1, 2)", puzzle.clue(1, 1, 2), SlitherLoop.NO_CLUE);
        due("mark(10, CHOSEN)", puzzle.mark(10, SlitherLoop.CHOSEN), SlitherLoop.OPEN);
        due("solutions()", puzzle.solutions(), 40);
        due("votes(0)", puzzle.votes(0), 14);
        due("chosen(0, 10)", puzzle.chosen(0, 10), true);
        due("length(0)", puzzle.length(0), 8);
        due("inside(0)", puzzle.inside(0), 3);
        due("length(40)", puzzle.length(40), 0);
        due("decided()", puzzle.decided(), 1);
        due("shortest()", puzzle.shortest(), 8);
        due("mark(24, CROSSED)", puzzle.mark(24, SlitherLoop.CROSSED), SlitherLoop.BAD_EDGE);
        puzzle.clear();
        due("solutions()", puzzle.solutions(), 213);
    }

    public static void main(String[] args) {
        newObject();
        clueAnswersTheOldOne();
        clueCountsChosenEdges();
        wrongClueChangesNothing();
        markAnswersTheOldOne();
        markBindsTheEdge();
        wrongMarkChangesNothing();
        clearTakesAllAway();
        solutionsAreCounted();
        votesAreCounted();
        chosenTellsTheEdges();
        solutionsAreOrdered();
        lengthIsCounted();
        insideIsCounted();
        decidedIsCounted();
        shortestIsFound();
        orderOfTests();
        askingChangesNothing();
        exampleOfReadme();
        System.out.println(wrong == 0 ? "all answers are as due" : wrong + " answers are not as due");
        if (wrong != 0) {
            System.exit(1);
        }
    }
}

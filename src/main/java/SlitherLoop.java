/** A loop puzzle on three rows and three columns of cells. */
public final class SlitherLoop {
    public static final int BAD_CELL = -1;
    public static final int BAD_EDGE = -2;
    public static final int BAD_VALUE = -3;
    public static final int NO_CLUE = 5;
    public static final int OPEN = 0;
    public static final int CHOSEN = 1;
    public static final int CROSSED = 2;

    private static final int SIDE = 3;
    private static final int CELLS = 9;
    private static final int EDGES = 24;
    private static final int FIRST_VERTICAL = 12;
    private static final int POINTS_IN_ROW = 4;
    private static final int ALL_EDGES = (1 << EDGES) - 1;
    private static final int CELL_SETS = 512;
    private static final int NONE = -1;

    private final int[] clues = new int[CELLS];
    private final int[] marks = new int[EDGES];

    // All loops of the board without hints, in the order of solutions. Sets are held as bits: edge e
    // is bit e, cell r * 3 + c is bit r * 3 + c.
    private final int[] loopEdges = new int[CELL_SETS];
    private final int[] loopCells = new int[CELL_SETS];
    private int loopCount = 0;

    public SlitherLoop() {
        takeHintsAway();
        findLoops();
    }

    public int clue(int row, int column, int clue) {
        if (row < 0 || row >= SIDE || column < 0 || column >= SIDE) {
            return BAD_CELL;
        }
        if (clue < 0 || clue > NO_CLUE) {
            return BAD_VALUE;
        }
        int cell = row * SIDE + column;
        int old = clues[cell];
        clues[cell] = clue;
        return old;
    }

    public int mark(int edge, int mark) {
        if (!isEdge(edge)) {
            return BAD_EDGE;
        }
        if (mark < OPEN || mark > CROSSED) {
            return BAD_VALUE;
        }
        int old = marks[edge];
        marks[edge] = mark;
        return old;
    }

    public void clear() {
        takeHintsAway();
    }

    public int solutions() {
        int total = 0;
        for (int loop = 0; loop < loopCount; loop++) {
            if (isSolution(loop)) {
                total++;
            }
        }
        return total;
    }

    public int votes(int edge) {
        if (!isEdge(edge)) {
            return BAD_EDGE;
        }
        int total = 0;
        for (int loop = 0; loop < loopCount; loop++) {
            if (has(loopEdges[loop], edge) && isSolution(loop)) {
                total++;
            }
        }
        return total;
    }

    public boolean chosen(int n, int edge) {
        int loop = loopOfSolution(n);
        return loop != NONE && isEdge(edge) && has(loopEdges[loop], edge);
    }

    public int length(int n) {
        int loop = loopOfSolution(n);
        return loop == NONE ? 0 : sizeOf(loopEdges[loop]);
    }

    public int inside(int n) {
        int loop = loopOfSolution(n);
        return loop == NONE ? 0 : sizeOf(loopCells[loop]);
    }

    public int decided() {
        int inAll = ALL_EDGES;
        int inSome = 0;
        for (int loop = 0; loop < loopCount; loop++) {
            if (isSolution(loop)) {
                inAll &= loopEdges[loop];
                inSome |= loopEdges[loop];
            }
        }
        // A solution chooses at least one edge, so an empty set means that there was no solution.
        if (inSome == 0) {
            return 0;
        }
        int inNone = ALL_EDGES & ~inSome;
        return sizeOf(inAll | inNone);
    }

    public int shortest() {
        int least = 0;
        for (int loop = 0; loop < loopCount; loop++) {
            if (isSolution(loop)) {
                int size = sizeOf(loopEdges[loop]);
                if (least == 0 || size < least) {
                    least = size;
                }
            }
        }
        return least;
    }

    private void takeHintsAway() {
        for (int cell = 0; cell < CELLS; cell++) {
            clues[cell] = NO_CLUE;
        }
        for (int edge = 0; edge < EDGES; edge++) {
            marks[edge] = OPEN;
        }
    }

    // Every loop is the border of the cells inside it, so the borders of all sets of cells hold all
    // loops, each once. Going through the sets by their order number finds them already sorted.
    private void findLoops() {
        for (int order = 0; order < CELL_SETS; order++) {
            int cells = cellSet(order);
            int edges = borderOf(cells);
            if (edges != 0 && meetInPairs(edges) && isConnected(edges)) {
                loopEdges[loopCount] = edges;
                loopCells[loopCount] = cells;
                loopCount++;
            }
        }
    }

    // Edges 0 to 8 are the upper edges of cells 0 to 8, and which of them are chosen tells which
    // cells are inside. The order number has these nine edges as its bits, edge 0 as the highest
    // one, because the lowest edge that differs decides the order of solutions.
    private static int cellSet(int order) {
        int cells = 0;
        for (int cell = 0; cell < CELLS; cell++) {
            boolean upperEdge = has(order, CELLS - 1 - cell);
            boolean insideAbove = cell >= SIDE && has(cells, cell - SIDE);
            if (upperEdge != insideAbove) {
                cells |= 1 << cell;
            }
        }
        return cells;
    }

    // An edge between two cells of the set is no border: the second cell takes it out again.
    private static int borderOf(int cells) {
        int edges = 0;
        for (int cell = 0; cell < CELLS; cell++) {
            if (has(cells, cell)) {
                edges ^= edgesOf(cell);
            }
        }
        return edges;
    }

    private static boolean meetInPairs(int edges) {
        int once = 0;
        int twice = 0;
        int moreOften = 0;
        for (int edge = 0; edge < EDGES; edge++) {
            if (has(edges, edge)) {
                int ends = endsOf(edge);
                moreOften |= twice & ends;
                twice |= once & ends;
                once |= ends;
            }
        }
        return once == twice && moreOften == 0;
    }

    // Each round reaches at least one more edge unless all that can be reached are, so as many
    // rounds as there are edges are enough.
    private static boolean isConnected(int edges) {
        int reached = edges & -edges;
        for (int round = 0; round < EDGES; round++) {
            reached = withNeighbours(edges, reached);
        }
        return reached == edges;
    }

    private static int withNeighbours(int edges, int reached) {
        int points = 0;
        for (int edge = 0; edge < EDGES; edge++) {
            if (has(reached, edge)) {
                points |= endsOf(edge);
            }
        }
        int wider = reached;
        for (int edge = 0; edge < EDGES; edge++) {
            if (has(edges, edge) && (endsOf(edge) & points) != 0) {
                wider |= 1 << edge;
            }
        }
        return wider;
    }

    private static int edgesOf(int cell) {
        int above = cell;
        int below = cell + SIDE;
        int left = FIRST_VERTICAL + cell / SIDE * POINTS_IN_ROW + cell % SIDE;
        int right = left + 1;
        return 1 << above | 1 << below | 1 << left | 1 << right;
    }

    // Points are numbered row by row, so a vertical edge bears the number of its upper end.
    private static int endsOf(int edge) {
        if (edge < FIRST_VERTICAL) {
            int leftEnd = edge / SIDE * POINTS_IN_ROW + edge % SIDE;
            return 1 << leftEnd | 1 << leftEnd + 1;
        }
        int upperEnd = edge - FIRST_VERTICAL;
        return 1 << upperEnd | 1 << upperEnd + POINTS_IN_ROW;
    }

    private int loopOfSolution(int n) {
        int before = 0;
        for (int loop = 0; loop < loopCount; loop++) {
            if (isSolution(loop)) {
                if (before == n) {
                    return loop;
                }
                before++;
            }
        }
        return NONE;
    }

    private boolean isSolution(int loop) {
        int edges = loopEdges[loop];
        return marksHold(edges) && cluesHold(edges);
    }

    private boolean marksHold(int edges) {
        for (int edge = 0; edge < EDGES; edge++) {
            int ruledOut = has(edges, edge) ? CROSSED : CHOSEN;
            if (marks[edge] == ruledOut) {
                return false;
            }
        }
        return true;
    }

    private boolean cluesHold(int edges) {
        for (int cell = 0; cell < CELLS; cell++) {
            if (clues[cell] != NO_CLUE) {
                int around = edges & edgesOf(cell);
                if (sizeOf(around) != clues[cell]) {
                    return false;
                }
            }
        }
        return true;
    }

    private static boolean isEdge(int edge) {
        return edge >= 0 && edge < EDGES;
    }

    private static boolean has(int set, int member) {
        return (set >> member & 1) != 0;
    }

    private static int sizeOf(int set) {
        int size = 0;
        for (int member = 0; member < EDGES; member++) {
            size += set >> member & 1;
        }
        return size;
    }
}

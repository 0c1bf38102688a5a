/** A small sheet of cells with formulas, some of which fill whole rectangles of cells. */
public final class SpillSheet {
    private static final int SIDE = 6;
    private static final int CELLS = 36;
    private static final int RECTANGLES = 1296;
    private static final int GREATEST_NUMBER = 1000;
    private static final int OPERATIONS = 5;

    private static final int EMPTY = 0;
    private static final int NUMBER = 1;
    private static final int PAIR = 2;
    private static final int SUM = 3;
    private static final int CHOICE = 4;
    private static final int SPREAD = 5;
    private static final int BROKEN = 6;

    private static final int STATE_VACANT = 0;
    private static final int STATE_VALUED = 1;
    private static final int STATE_CIRCULAR = 2;
    private static final int STATE_FAILED = 3;
    private static final int STATES = 4;

    private static final int OUTSIDE = -1;
    private static final int NONE = -2;

    // The contents. A sum and a spread keep their rectangle's corners as first and second,
    // so that a copy moves them just as it moves the cells of a pair.
    private final int[] kindOf = new int[CELLS];
    private final int[] numberOf = new int[CELLS];
    private final int[] operationOf = new int[CELLS];
    private final int[] firstOf = new int[CELLS];
    private final int[] secondOf = new int[CELLS];
    private final int[] thirdOf = new int[CELLS];

    // What follows from the contents. It is worked out anew after every change,
    // so that a question only reads.
    private final int[] ownerOf = new int[CELLS];
    private final int[] shownOf = new int[CELLS];
    private final long[] directOf = new long[CELLS];
    private final long[] sourcesOf = new long[CELLS];
    private final int[] stateOf = new int[CELLS];
    private final int[] valueOf = new int[CELLS];
    private final int[] depthOf = new int[CELLS];

    public SpillSheet() {
        settle();
    }

    public int number(int cell, int number) {
        if (!isCell(cell)) {
            return -1;
        }
        if (number < -GREATEST_NUMBER || number > GREATEST_NUMBER) {
            return -2;
        }
        write(cell, NUMBER, 0, 0, 0);
        numberOf[cell] = number;
        settle();
        return 0;
    }

    public int pair(int cell, int operation, int a, int b) {
        if (!isCell(cell)) {
            return -1;
        }
        if (operation < 0 || operation >= OPERATIONS) {
            return -2;
        }
        if (!isCell(a) || !isCell(b)) {
            return -3;
        }
        write(cell, PAIR, a, b, 0);
        operationOf[cell] = operation;
        settle();
        return 0;
    }

    public int sum(int cell, int rectangle) {
        if (!isCell(cell)) {
            return -1;
        }
        if (!isRectangle(rectangle)) {
            return -2;
        }
        write(cell, SUM, rectangle / CELLS, rectangle % CELLS, 0);
        settle();
        return heightOf(cell) * widthOf(cell);
    }

    public int choice(int cell, int a, int b, int c) {
        if (!isCell(cell)) {
            return -1;
        }
        if (!isCell(a) || !isCell(b) || !isCell(c)) {
            return -2;
        }
        write(cell, CHOICE, a, b, c);
        settle();
        return 0;
    }

    public int spread(int cell, int rectangle) {
        if (!isCell(cell)) {
            return -1;
        }
        if (!isRectangle(rectangle)) {
            return -2;
        }
        write(cell, SPREAD, rectangle / CELLS, rectangle % CELLS, 0);
        settle();
        return ownerOf[cell] == cell ? 1 : 0;
    }

    public int erase(int cell) {
        if (!isCell(cell)) {
            return -1;
        }
        int before = kindOf[cell];
        write(cell, EMPTY, 0, 0, 0);
        settle();
        return before == EMPTY ? 0 : 1;
    }

    public int copy(int from, int to) {
        if (!isCell(from) || !isCell(to)) {
            return -1;
        }
        int rows = to / SIDE - from / SIDE;
        int columns = to % SIDE - from % SIDE;
        int kind = kindOf[from];
        int first = firstOf[from];
        int second = secondOf[from];
        int third = thirdOf[from];
        if (kind == PAIR || kind == SUM || kind == CHOICE || kind == SPREAD) {
            first = moved(first, rows, columns);
            second = moved(second, rows, columns);
        }
        if (kind == CHOICE) {
            third = moved(third, rows, columns);
        }
        if (first == OUTSIDE || second == OUTSIDE || third == OUTSIDE) {
            write(to, BROKEN, 0, 0, 0);
        } else {
            write(to, kind, first, second, third);
            numberOf[to] = numberOf[from];
            operationOf[to] = operationOf[from];
        }
        settle();
        return kindOf[to] == BROKEN ? 1 : 0;
    }

    public int kind(int cell) {
        return isCell(cell) ? kindOf[cell] : -1;
    }

    public int state(int cell) {
        return isCell(cell) ? stateOf[cell] : -1;
    }

    public int value(int cell) {
        return isCell(cell) ? valueOf[cell] : 0;
    }

    public int shows(int cell) {
        return isCell(cell) ? shownOf[cell] : -1;
    }

    public int owner(int cell) {
        return isCell(cell) ? ownerOf[cell] : -1;
    }

    public long sources(int cell) {
        return isCell(cell) ? sourcesOf[cell] : -1L;
    }

    public long readers(int cell) {
        if (!isCell(cell)) {
            return -1L;
        }
        long set = 0L;
        for (int reader = 0; reader < CELLS; reader++) {
            if (holds(sourcesOf[reader], cell)) {
                set |= 1L << reader;
            }
        }
        return set;
    }

    public int inState(int state) {
        if (state < 0 || state >= STATES) {
            return -1;
        }
        int count = 0;
        for (int cell = 0; cell < CELLS; cell++) {
            if (stateOf[cell] == state) {
                count++;
            }
        }
        return count;
    }

    public int depth(int cell) {
        if (!isCell(cell)) {
            return -1;
        }
        return stateOf[cell] == STATE_CIRCULAR ? -2 : depthOf[cell];
    }

    public int total(int rectangle) {
        if (!isRectangle(rectangle)) {
            return 0;
        }
        long set = cellsBetween(rectangle / CELLS, rectangle % CELLS);
        return totalOf(set);
    }

    private static boolean isCell(int cell) {
        return cell >= 0 && cell < CELLS;
    }

    private static boolean isRectangle(int rectangle) {
        if (rectangle < 0 || rectangle >= RECTANGLES) {
            return false;
        }
        int upperLeft = rectangle / CELLS;
        int lowerRight = rectangle % CELLS;
        return upperLeft / SIDE <= lowerRight / SIDE && upperLeft % SIDE <= lowerRight % SIDE;
    }

    private static boolean holds(long set, int cell) {
        return (set >>> cell & 1L) != 0L;
    }

    private static int moved(int cell, int rows, int columns) {
        int row = cell / SIDE + rows;
        int column = cell % SIDE + columns;
        if (row < 0 || row >= SIDE || column < 0 || column >= SIDE) {
            return OUTSIDE;
        }
        return SIDE * row + column;
    }

    private static long cellsBetween(int upperLeft, int lowerRight) {
        long set = 0L;
        for (int row = upperLeft / SIDE; row <= lowerRight / SIDE; row++) {
            for (int column = upperLeft % SIDE; column <= lowerRight % SIDE; column++) {
                set |= 1L << (SIDE * row + column);
            }
        }
        return set;
    }

    private int heightOf(int cell) {
        return secondOf[cell] / SIDE - firstOf[cell] / SIDE + 1;
    }

    private int widthOf(int cell) {
        return secondOf[cell] % SIDE - firstOf[cell] % SIDE + 1;
    }

    // The number and the operation are left as they are: they are read only where the kind
    // asks for them, and whoever writes such a kind sets them.
    private void write(int cell, int kind, int first, int second, int third) {
        kindOf[cell] = kind;
        firstOf[cell] = first;
        secondOf[cell] = second;
        thirdOf[cell] = third;
    }

    private void settle() {
        settleSpreads();
        linkCells();
        closeLinks();
        judgeStates();
        evaluateAll();
    }

    private void settleSpreads() {
        for (int cell = 0; cell < CELLS; cell++) {
            ownerOf[cell] = NONE;
            shownOf[cell] = NONE;
        }
        for (int cell = 0; cell < CELLS; cell++) {
            if (kindOf[cell] == SPREAD && canOpen(cell)) {
                open(cell);
            }
        }
    }

    private boolean canOpen(int start) {
        int height = heightOf(start);
        int width = widthOf(start);
        int end = moved(start, height - 1, width - 1);
        if (end == OUTSIDE) {
            return false;
        }
        long area = cellsBetween(start, end);
        for (int cell = 0; cell < CELLS; cell++) {
            if (holds(area, cell)) {
                boolean filled = cell != start && kindOf[cell] != EMPTY;
                if (filled || ownerOf[cell] != NONE) {
                    return false;
                }
            }
        }
        return true;
    }

    private void open(int start) {
        int height = heightOf(start);
        int width = widthOf(start);
        for (int row = 0; row < height; row++) {
            for (int column = 0; column < width; column++) {
                int cell = start + SIDE * row + column;
                ownerOf[cell] = start;
                shownOf[cell] = firstOf[start] + SIDE * row + column;
            }
        }
    }

    private void linkCells() {
        for (int cell = 0; cell < CELLS; cell++) {
            if (shownOf[cell] != NONE) {
                directOf[cell] = 1L << shownOf[cell];
            } else {
                directOf[cell] = namedByFormula(cell);
            }
        }
    }

    // A spread is left out: a blocked one depends on none, an open one on the cell that it shows.
    private long namedByFormula(int cell) {
        switch (kindOf[cell]) {
            case PAIR:
                return 1L << firstOf[cell] | 1L << secondOf[cell];
            case SUM:
                return cellsBetween(firstOf[cell], secondOf[cell]);
            case CHOICE:
                return 1L << firstOf[cell] | 1L << secondOf[cell] | 1L << thirdOf[cell];
            default:
                return 0L;
        }
    }

    // The middle cell must be the outer loop: then one round finds every way through any cells.
    private void closeLinks() {
        for (int cell = 0; cell < CELLS; cell++) {
            sourcesOf[cell] = directOf[cell];
        }
        for (int middle = 0; middle < CELLS; middle++) {
            for (int cell = 0; cell < CELLS; cell++) {
                if (holds(sourcesOf[cell], middle)) {
                    sourcesOf[cell] |= sourcesOf[middle];
                }
            }
        }
    }

    private void judgeStates() {
        long circular = 0L;
        long failed = 0L;
        for (int cell = 0; cell < CELLS; cell++) {
            if (holds(sourcesOf[cell], cell)) {
                circular |= 1L << cell;
            }
            boolean blocked = kindOf[cell] == SPREAD && ownerOf[cell] == NONE;
            if (blocked || kindOf[cell] == BROKEN) {
                failed |= 1L << cell;
            }
        }
        for (int cell = 0; cell < CELLS; cell++) {
            long concerned = sourcesOf[cell] | 1L << cell;
            if ((concerned & circular) != 0L) {
                stateOf[cell] = STATE_CIRCULAR;
            } else if ((concerned & failed) != 0L) {
                stateOf[cell] = STATE_FAILED;
            } else if (kindOf[cell] == EMPTY && shownOf[cell] == NONE) {
                stateOf[cell] = STATE_VACANT;
            } else {
                stateOf[cell] = STATE_VALUED;
            }
        }
    }

    // A cell waits until all that it depends on directly is done. Every pass gets at least one
    // more cell done, as long as one is left that is not circular; circular cells wait for ever.
    private void evaluateAll() {
        for (int cell = 0; cell < CELLS; cell++) {
            valueOf[cell] = 0;
            depthOf[cell] = 0;
        }
        long done = 0L;
        for (int pass = 0; pass < CELLS; pass++) {
            for (int cell = 0; cell < CELLS; cell++) {
                if (!holds(done, cell) && (directOf[cell] & ~done) == 0L) {
                    if (stateOf[cell] == STATE_VALUED) {
                        valueOf[cell] = evaluate(cell);
                    }
                    depthOf[cell] = 1 + deepestOf(directOf[cell]);
                    done |= 1L << cell;
                }
            }
        }
    }

    private int evaluate(int cell) {
        if (shownOf[cell] != NONE) {
            return valueOf[shownOf[cell]];
        }
        switch (kindOf[cell]) {
            case NUMBER:
                return numberOf[cell];
            case PAIR:
                return combine(operationOf[cell], valueOf[firstOf[cell]], valueOf[secondOf[cell]]);
            case SUM:
                return totalOf(directOf[cell]);
            case CHOICE:
                return valueOf[valueOf[firstOf[cell]] > 0 ? secondOf[cell] : thirdOf[cell]];
            default:
                return 0;
        }
    }

    private static int combine(int operation, int a, int b) {
        switch (operation) {
            case 0:
                return a + b;
            case 1:
                return a - b;
            case 2:
                return a * b;
            case 3:
                return a < b ? a : b;
            default:
                return a > b ? a : b;
        }
    }

    private int totalOf(long set) {
        int total = 0;
        for (int cell = 0; cell < CELLS; cell++) {
            if (holds(set, cell)) {
                total += valueOf[cell];
            }
        }
        return total;
    }

    private int deepestOf(long set) {
        int deepest = 0;
        for (int cell = 0; cell < CELLS; cell++) {
            if (holds(set, cell) && depthOf[cell] > deepest) {
                deepest = depthOf[cell];
            }
        }
        return deepest;
    }
}

import java.util.function.Consumer;
import java.util.function.IntConsumer;
import java.util.function.ToIntFunction;

/** The boundary cases in the document's section 'Terms', with a method for each of its sentences. */
public final class TermsEdgesTest {
    private static final int LEAST = Integer.MIN_VALUE;
    private static final int GREATEST = Integer.MAX_VALUE;
    private static final String UNTOUCHED = Check.picture(Check.mixedSheet());

    public static void main(String[] args) {
        cells();
        rowsDoNotRunOn();
        rectangleNumbers();
        smallestAndGreatestRectangle();
        contentsThatNameNone();
        areaInTheSheet();
        areaOnTheSheetsEdges();
        areaButItsStartEmpty();
        startMayBeFilledBefore();
        neighboursMayBeFilled();
        areasOfTwo();
        risingOrder();
        blockedTakesNothing();
        sameRowAndColumnWithin();
        dependsThroughAll();
        blockedDependsOnNone();
        stateOfALoop();
        stateLoopComesFirst();
        stateFailureComesSecond();
        stateEmptyComesThird();
        valueOfNoState();
        valueOfAChoice();
        valueOfAPairWraps();
        valueOfASumWraps();
        questionsChangeNothing();
        refusedChangesNothing();
        orderOfTests();
        call512();
        Check.finish();
    }

    private static void cells() {
        Check.sentence("There are 36 CELLS in 6 rows and 6 columns");
        SpillSheet x = new SpillSheet();
        for (int cell = -3; cell < 39; cell++) {
            Check.due("number in cell " + cell, x.number(cell, 1), cell < 0 || cell > 35 ? -1 : 0);
        }
        Check.due("cells filled", x.inState(1), 36);
        Check.due("cells not filled", x.inState(0), 0);
        Check.due("total of all", x.total(Check.size(6, 6)), 36);
    }

    private static void rowsDoNotRunOn() {
        Check.sentence("the cell in row r and column c has the number 6 * r + c");
        SpillSheet x = new SpillSheet();
        Check.due("rectangle from the end of a row to the start of the next", x.sum(0, Check.rectangle(5, 6)), -2);
        Check.due("spread over the end of a row", x.spread(5, Check.size(1, 2)), 0);
        Check.due("its area does not run on", x.owner(6), -2);
        x.pair(16, 0, 11, 11);
        Check.due("copy of a cell at the end of a row, to the right", x.copy(16, 17), 1);
        x.pair(16, 0, 12, 12);
        Check.due("copy of a cell at the start of a row, to the left", x.copy(16, 15), 1);
        x.pair(11, 0, 5, 5);
        Check.due("copy from the end of a row to the start of the next", x.copy(11, 12), 0);
        Check.due("it moves a row down and five columns left", x.sources(12), Check.set(6));
    }

    private static void rectangleNumbers() {
        Check.sentence("the first one's row and column are at most the second one's; it is written as the"
                + " number 36 * (upper left) + (lower right), 0 .. 1295");
        int[] sizes = new int[1296];
        for (int rectangle : Check.rectangles()) {
            sizes[rectangle] = Check.rows(rectangle) * Check.columns(rectangle);
        }
        for (int rectangle = -1300; rectangle < 2600; rectangle++) {
            int size = rectangle < 0 || rectangle > 1295 ? 0 : sizes[rectangle];
            Check.due("sum of " + rectangle, new SpillSheet().sum(0, rectangle), size == 0 ? -2 : size);
            Check.due("spread of " + rectangle, new SpillSheet().spread(0, rectangle), size == 0 ? -2 : 1);
        }
        for (int bad : new int[] {LEAST, LEAST + 1, GREATEST - 1, GREATEST, 1 << 16, 36 * 36 * 36}) {
            Check.due("sum of " + bad, new SpillSheet().sum(0, bad), -2);
            Check.due("spread of " + bad, new SpillSheet().spread(0, bad), -2);
        }
    }

    private static void smallestAndGreatestRectangle() {
        Check.sentence("A RECTANGLE is given by two cells, its upper left and its lower right corner");
        SpillSheet x = new SpillSheet();
        for (int cell = 0; cell < 36; cell++) {
            x.number(cell, cell + 1);
        }
        for (int cell = 0; cell < 36; cell++) {
            Check.due("of the one cell " + cell, x.total(Check.rectangle(cell, cell)), cell + 1);
        }
        Check.due("of all cells", x.total(35), 18 * 37);
        Check.due("of the first row", x.total(Check.rectangle(0, 5)), 21);
        Check.due("of the last row", x.total(Check.rectangle(30, 35)), 201);
        Check.due("of the first column", x.total(Check.rectangle(0, 30)), 96);
        Check.due("of the last column", x.total(Check.rectangle(5, 35)), 126);
    }

    private static void contentsThatNameNone() {
        Check.sentence("none for others");
        for (int kind : new int[] {0, 1, 6}) {
            SpillSheet x = new SpillSheet();
            Check.put(x, 14, kind);
            Check.due("sources of kind " + kind, x.sources(14), 0L);
            Check.due("depth of kind " + kind, x.depth(14), 1);
        }
    }

    private static void areaInTheSheet() {
        Check.sentence("one is OPEN if its area lies in the sheet");
        for (int rectangle : Check.rectangles()) {
            for (int start = 0; start < 36; start++) {
                SpillSheet x = new SpillSheet();
                boolean fits = Check.inSheet(start / 6 + Check.rows(rectangle) - 1,
                        start % 6 + Check.columns(rectangle) - 1);
                String call = "spread(" + start + ", " + rectangle + ")";
                Check.due(call, x.spread(start, rectangle), fits ? 1 : 0);
                Check.due(call + ": owner", x.owner(start), fits ? start : -2);
            }
        }
    }

    private static void areaOnTheSheetsEdges() {
        Check.sentence("the rectangle of h rows and w columns with s as its upper left corner");
        for (int length = 1; length <= 6; length++) {
            int last = 6 - length;
            Check.due("just to the right edge", new SpillSheet().spread(last, Check.size(1, length)), 1);
            Check.due("just to the lower edge", new SpillSheet().spread(6 * last, Check.size(length, 1)), 1);
            Check.due("just to the last cell", new SpillSheet().spread(7 * last, Check.size(length, length)), 1);
            if (length > 1) {
                int next = last + 1;
                Check.due("one too far right", new SpillSheet().spread(next, Check.size(1, length)), 0);
                Check.due("one too far down", new SpillSheet().spread(6 * next, Check.size(length, 1)), 0);
                Check.due("too far right only", new SpillSheet().spread(next, Check.size(length, length)), 0);
                Check.due("too far down only", new SpillSheet().spread(6 * next, Check.size(length, length)), 0);
            }
        }
    }

    // The area is rows 2 and 3, columns 2 to 4. Kind 7 stands for a blocked spread.
    private static boolean inArea(int cell) {
        return cell / 6 >= 2 && cell / 6 <= 3 && cell % 6 >= 2 && cell % 6 <= 4;
    }

    private static void putAny(SpillSheet x, int cell, int kind) {
        if (kind == 7) {
            x.spread(cell, Check.size(6, 6));
        } else {
            Check.put(x, cell, kind);
        }
    }

    private static void areaButItsStartEmpty() {
        Check.sentence("all cells of the area but s are empty");
        for (int cell = 0; cell < 36; cell++) {
            for (int kind = 0; kind < 8; kind++) {
                if (cell != 14) {
                    int open = inArea(cell) && kind != 0 ? 0 : 1;
                    String where = " with kind " + kind + " in cell " + cell;
                    SpillSheet before = new SpillSheet();
                    putAny(before, cell, kind);
                    Check.due("spread" + where, before.spread(14, Check.size(2, 3)), open);
                    SpillSheet after = new SpillSheet();
                    after.spread(14, Check.size(2, 3));
                    putAny(after, cell, kind);
                    Check.due("owner" + where, after.owner(14), open == 1 ? 14 : -2);
                    after.erase(cell);
                    Check.due("owner, freed of it", after.owner(21), 14);
                }
            }
        }
    }

    private static void startMayBeFilledBefore() {
        Check.sentence("all cells of the area but s");
        for (int kind = 0; kind < 8; kind++) {
            SpillSheet x = new SpillSheet();
            putAny(x, 14, kind);
            Check.due("spread over kind " + kind, x.spread(14, Check.size(2, 3)), 1);
            Check.due("spread again", x.spread(14, Check.size(2, 3)), 1);
            Check.due("smaller again", x.spread(14, Check.size(1, 1)), 1);
            Check.due("the smaller one lets go", x.owner(15), -2);
        }
    }

    private static void neighboursMayBeFilled() {
        Check.sentence("all cells of the area");
        SpillSheet x = new SpillSheet();
        for (int cell = 0; cell < 36; cell++) {
            if (!inArea(cell)) {
                x.number(cell, 1);
            }
        }
        Check.due("spread with all other cells filled", x.spread(14, Check.size(2, 3)), 1);
        Check.due("and one more row", x.spread(14, Check.size(3, 3)), 0);
        Check.due("and one more column", x.spread(14, Check.size(2, 4)), 0);
        Check.due("and as before", x.spread(14, Check.size(2, 3)), 1);
    }

    private static void areasOfTwo() {
        Check.sentence("no cell of the area is in the area of another open spread formula settled before");
        int[][] sizes = {{1, 1, 1, 1}, {2, 2, 2, 2}, {2, 1, 1, 2}, {3, 1, 1, 6}, {2, 3, 4, 2}, {1, 2, 2, 5}, {6, 1, 1, 6}};
        for (int[] size : sizes) {
            for (int first = 0; first < 36; first++) {
                for (int second = first + 1; second < 36; second++) {
                    twoSpreads(first, second, size);
                }
            }
        }
    }

    private static void twoSpreads(int first, int second, int[] size) {
        long area = area(first, size[0], size[1]);
        long other = area(second, size[2], size[3]);
        boolean firstOpen = area != 0 && (area >>> second & 1) == 0;
        boolean secondOpen = other != 0 && !(firstOpen && (area & other) != 0);
        String call = "spreads in " + first + " and " + second;
        SpillSheet rising = new SpillSheet();
        rising.spread(first, Check.size(size[0], size[1]));
        Check.due(call, rising.spread(second, Check.size(size[2], size[3])), secondOpen ? 1 : 0);
        Check.due(call + ": first", rising.owner(first), firstOpen ? first : -2);
        SpillSheet falling = new SpillSheet();
        falling.spread(second, Check.size(size[2], size[3]));
        Check.due(call + ", falling", falling.spread(first, Check.size(size[0], size[1])), firstOpen ? 1 : 0);
        Check.due(call + ", falling: second", falling.owner(second), secondOpen ? second : -2);
        falling.erase(first);
        Check.due(call + ", the first erased", falling.owner(second), other != 0 ? second : -2);
    }

    /** The cells of an area, none if it does not lie in the sheet. */
    private static long area(int start, int rows, int columns) {
        long set = 0L;
        for (int row = start / 6; row < start / 6 + rows; row++) {
            for (int column = start % 6; column < start % 6 + columns; column++) {
                if (!Check.inSheet(row, column)) {
                    return 0L;
                }
                set |= Check.set(Check.cell(row, column));
            }
        }
        return set;
    }

    private static void risingOrder() {
        Check.sentence("Spread formulas are settled in rising order of their cells");
        int[] stairs = {Check.cell(0, 4), Check.cell(1, 3), Check.cell(2, 2), Check.cell(3, 1), Check.cell(4, 0)};
        int[][] orders = {{0, 1, 2, 3, 4}, {4, 3, 2, 1, 0}, {2, 0, 4, 1, 3}, {1, 3, 0, 2, 4}};
        for (int[] order : orders) {
            SpillSheet x = new SpillSheet();
            for (int place : order) {
                x.spread(stairs[place], Check.size(2, 2));
            }
            everySecondOpen(x, stairs, 0);
            x.erase(stairs[0]);
            Check.due("the first one's cell is free", x.owner(stairs[0]), -2);
            everySecondOpen(x, stairs, 1);
            Check.due("the first one again", x.spread(stairs[0], Check.size(2, 2)), 1);
            everySecondOpen(x, stairs, 0);
            x.number(Check.cell(0, 5), 0);
            Check.due("the first one blocked", x.owner(stairs[0]), -2);
            everySecondOpen(x, stairs, 1);
        }
    }

    private static void everySecondOpen(SpillSheet x, int[] stairs, int from) {
        for (int place = from; place < stairs.length; place++) {
            boolean open = (place - from) % 2 == 0;
            Check.due("stair " + place + " from " + from, x.owner(stairs[place]), open ? stairs[place] : -2);
        }
    }

    private static void blockedTakesNothing() {
        Check.sentence("otherwise it is BLOCKED");
        SpillSheet x = new SpillSheet();
        Check.due("blocked by the edge", x.spread(1, Check.size(2, 6)), 0);
        for (int cell = 0; cell < 36; cell++) {
            Check.due("owner of " + cell, x.owner(cell), -2);
            Check.due("shows of " + cell, x.shows(cell), -2);
        }
        Check.due("another over the same cells", x.spread(6, Check.size(1, 6)), 1);
        Check.due("owner of the shared cell", x.owner(7), 6);
    }

    private static void sameRowAndColumnWithin() {
        Check.sentence("the cell of the formula's rectangle that stands in the same row and column within it");
        for (int rectangle : Check.rectangles()) {
            int rows = Check.rows(rectangle);
            int columns = Check.columns(rectangle);
            for (int row = 0; row + rows <= 6; row++) {
                for (int column = 0; column + columns <= 6; column++) {
                    showsAll(Check.cell(row, column), rectangle);
                }
            }
        }
    }

    private static void showsAll(int start, int rectangle) {
        SpillSheet x = new SpillSheet();
        x.spread(start, rectangle);
        for (int cell = 0; cell < 36; cell++) {
            int row = cell / 6 - start / 6;
            int column = cell % 6 - start % 6;
            boolean inside = row >= 0 && row < Check.rows(rectangle)
                    && column >= 0 && column < Check.columns(rectangle);
            int shown = Check.cell(rectangle / 36 / 6 + row, rectangle / 36 % 6 + column);
            String call = "spread(" + start + ", " + rectangle + "), cell " + cell;
            Check.due(call + ": shows", x.shows(cell), inside ? shown : -2);
            Check.due(call + ": owner", x.owner(cell), inside ? start : -2);
        }
    }

    private static void dependsThroughAll() {
        Check.sentence("It DEPENDS on these and on all that they depend on");
        SpillSheet x = new SpillSheet();
        x.pair(35, 0, 0, 0);
        x.choice(0, 34, 34, 34);
        x.sum(34, Check.rectangle(1, 1));
        x.spread(1, Check.rectangle(33, 33));
        x.pair(33, 0, 2, 2);
        Check.due("through each kind of formula", x.sources(35), Check.set(0, 34, 1, 33, 2));
        x.erase(34);
        Check.due("cut in the middle", x.sources(35), Check.set(0, 34));
        x.spread(20, Check.rectangle(30, 32));
        Check.due("a spread's start does not depend on the other cells", x.sources(20), Check.set(30));
        Check.due("a cell of its area does not depend on its start", x.sources(21), Check.set(31));
        x.pair(10, 0, 22, 22);
        Check.due("a reader of the area does not depend on its start", x.sources(10), Check.set(22, 32));
    }

    private static void blockedDependsOnNone() {
        Check.sentence("A cell with a blocked spread formula depends on none.");
        SpillSheet x = new SpillSheet();
        x.number(15, 4);
        Check.due("blocked, its rectangle its own area", x.spread(14, Check.rectangle(14, 15)), 0);
        Check.due("sources", x.sources(14), 0L);
        Check.due("readers of a named cell", x.readers(15), 0L);
        Check.due("readers of itself", x.readers(14), 0L);
        Check.due("state, not 2", x.state(14), 3);
        Check.due("depth", x.depth(14), 1);
        x.erase(15);
        Check.due("freed: sources", x.sources(14), Check.set(14));
        Check.due("freed: state", x.state(14), 2);
        Check.due("freed: state in its area", x.state(15), 2);
    }

    private static void stateOfALoop() {
        Check.sentence("2 if it depends on itself or on a cell that depends on itself");
        for (int length = 1; length <= 36; length++) {
            SpillSheet x = new SpillSheet();
            for (int cell = 0; cell < length; cell++) {
                int next = (cell + 1) % length;
                x.pair(cell, 0, next, next);
            }
            Check.due("loop of " + length, x.inState(2), length);
            Check.due("loop of " + length + ": sources", x.sources(0), (1L << length) - 1);
            x.number(length - 1, 1);
            Check.due("cut loop of " + length, x.inState(2), 0);
            Check.due("cut loop of " + length + ": values", x.inState(1), length);
        }
        SpillSheet x = new SpillSheet();
        x.pair(35, 0, 35, 0);
        for (int cell = 34; cell > 0; cell--) {
            x.pair(cell, 0, cell + 1, 0);
        }
        Check.due("all behind a loop of one", x.inState(2), 35);
        Check.due("what a loop names is not in it", x.state(0), 0);
    }

    private static void stateLoopComesFirst() {
        Check.sentence("THE STATE of a cell is 2 if");
        SpillSheet x = new SpillSheet();
        x.pair(0, 0, 0, 0);
        Check.put(x, 34, 6);
        x.spread(5, Check.size(1, 2));
        x.pair(0, 0, 0, 34);
        Check.due("in a loop, reads a broken one", x.state(0), 2);
        x.pair(0, 0, 5, 0);
        Check.due("in a loop, reads a blocked one", x.state(0), 2);
        x.choice(1, 34, 5, 0);
        Check.due("reads a broken one, a blocked one and a loop", x.state(1), 2);
        x.spread(12, Check.rectangle(0, 1));
        Check.due("an open spread that shows a loop", x.state(12), 2);
        Check.due("an empty cell that shows one behind it", x.state(13), 2);
    }

    private static void stateFailureComesSecond() {
        Check.sentence("otherwise 3 if its content is a blocked spread formula or broken, or if some cell that it"
                + " depends on has such a content");
        SpillSheet x = new SpillSheet();
        Check.put(x, 34, 6);
        x.spread(5, Check.size(1, 2));
        Check.due("broken", x.state(34), 3);
        Check.due("blocked", x.state(5), 3);
        x.spread(12, Check.rectangle(33, 34));
        Check.due("an empty cell that shows a broken one", x.state(13), 3);
        Check.due("the open spread's start beside it shows an empty one", x.state(12), 1);
        x.spread(18, Check.rectangle(4, 5));
        Check.due("an empty cell that shows a blocked one", x.state(19), 3);
        Check.due("a start that shows an empty cell", x.state(18), 1);
        x.pair(20, 3, 0, 19);
        x.sum(21, Check.rectangle(20, 20));
        x.choice(22, 0, 0, 21);
        Check.due("far behind a blocked one", x.state(22), 3);
        Check.due("cells in state 3", x.inState(3), 7);
        x.erase(5);
        Check.due("cells in state 3 without the blocked one", x.inState(3), 2);
    }

    private static void stateEmptyComesThird() {
        Check.sentence("otherwise 0 if it is empty and shows no cell; otherwise 1");
        SpillSheet x = new SpillSheet();
        Check.due("empty", x.state(13), 0);
        x.spread(12, Check.rectangle(0, 1));
        Check.due("empty, shows an empty cell", x.state(13), 1);
        Check.due("shown", x.state(1), 0);
        x.spread(12, Check.rectangle(0, 0));
        Check.due("empty, shown no more", x.state(13), 0);
        for (int kind = 0; kind < 6; kind++) {
            SpillSheet y = new SpillSheet();
            Check.put(y, 20, kind);
            Check.due("kind " + kind + " of an empty cell", y.state(20), kind == 0 ? 0 : 1);
            y.erase(20);
            Check.due("kind " + kind + " erased", y.state(20), 0);
        }
    }

    private static void valueOfNoState() {
        Check.sentence("THE VALUE of a cell is 0 in the states 0, 2 and 3");
        SpillSheet x = new SpillSheet();
        x.number(0, 7);
        x.pair(1, 0, 0, 0);
        x.spread(6, Check.rectangle(0, 1));
        Check.due("value shown in state 1", x.value(7), 14);
        x.pair(1, 0, 0, 1);
        Check.due("state 2", x.state(7), 2);
        Check.due("value in state 2", x.value(7), 0);
        Check.due("value in a loop", x.value(1), 0);
        x.spread(5, Check.size(1, 2));
        x.pair(1, 0, 0, 5);
        Check.due("state 3", x.state(7), 3);
        Check.due("value in state 3", x.value(7), 0);
        Check.due("value of a reader of a failure", x.value(1), 0);
        Check.due("value of the failure", x.value(5), 0);
        x.number(1, 8);
        Check.due("value again in state 1", x.value(7), 8);
        x.erase(6);
        Check.due("state 0", x.state(7), 0);
        Check.due("value in state 0", x.value(7), 0);
        x.erase(1);
        Check.due("value of an erased number", x.value(1), 0);
    }

    private static void valueOfAChoice() {
        Check.sentence("value b if value a > 0, otherwise value c, for a choice");
        SpillSheet x = Check.farSheet();
        x.number(0, 5);
        x.number(1, 6);
        int[] cells = {30, 31, 32, 33, 34, 35};
        int[] wants = {5, 6, 5, 6, 6, 6};
        for (int place = 0; place < cells.length; place++) {
            x.choice(2, cells[place], 0, 1);
            Check.due("by " + x.value(cells[place]), x.value(2), wants[place]);
        }
    }

    private static void valueOfAPairWraps() {
        Check.sentence("Ints, wrapping.");
        SpillSheet x = Check.farSheet();
        int one = 30;
        int least = 31;
        int greatest = 32;
        int minusOne = 33;
        int zero = 34;
        Check.due("the least int", x.value(least), LEAST);
        Check.due("the greatest int", x.value(greatest), GREATEST);
        int[][] rows = {
            {0, greatest, one, LEAST}, {0, least, minusOne, GREATEST}, {0, greatest, greatest, -2},
            {0, least, least, 0}, {0, greatest, least, -1}, {0, greatest, zero, GREATEST},
            {1, least, one, GREATEST}, {1, greatest, minusOne, LEAST}, {1, zero, least, LEAST},
            {1, least, greatest, 1}, {1, greatest, least, -1}, {1, minusOne, greatest, LEAST},
            {2, greatest, greatest, 1}, {2, least, least, 0}, {2, least, minusOne, LEAST},
            {2, greatest, minusOne, -GREATEST}, {2, least, greatest, LEAST}, {2, greatest, zero, 0},
            {3, least, greatest, LEAST}, {3, greatest, least, LEAST}, {3, greatest, one, 1},
            {3, least, minusOne, LEAST}, {3, zero, minusOne, -1}, {3, greatest, greatest, GREATEST},
            {4, least, greatest, GREATEST}, {4, greatest, least, GREATEST}, {4, greatest, one, GREATEST},
            {4, least, minusOne, -1}, {4, zero, minusOne, 0}, {4, least, least, LEAST},
        };
        for (int[] row : rows) {
            x.pair(0, row[0], row[1], row[2]);
            Check.due("operation " + row[0] + " on " + x.value(row[1]) + " and " + x.value(row[2]),
                    x.value(0), row[3]);
        }
    }

    private static void valueOfASumWraps() {
        Check.sentence("the sum of all values of the rectangle for a sum");
        SpillSheet x = Check.farSheet();
        x.sum(0, Check.rectangle(30, 31));
        Check.due("1 and the least", x.value(0), LEAST + 1);
        x.sum(0, Check.rectangle(31, 32));
        Check.due("the least and the greatest", x.value(0), -1);
        x.copy(30, 33);
        x.sum(0, Check.rectangle(32, 33));
        Check.due("the greatest and 1", x.value(0), LEAST);
        x.pair(1, 1, 31, 30);
        x.pair(2, 0, 32, 34);
        x.sum(0, Check.rectangle(1, 2));
        Check.due("the greatest twice", x.value(0), -2);
    }

    private static void questionsChangeNothing() {
        Check.sentence("No question changes anything.");
        unchanged("kind", x -> forAll(cell -> x.kind(cell)));
        unchanged("state", x -> forAll(cell -> x.state(cell)));
        unchanged("value", x -> forAll(cell -> x.value(cell)));
        unchanged("shows", x -> forAll(cell -> x.shows(cell)));
        unchanged("owner", x -> forAll(cell -> x.owner(cell)));
        unchanged("sources", x -> forAll(cell -> x.sources(cell)));
        unchanged("readers", x -> forAll(cell -> x.readers(cell)));
        unchanged("inState", x -> forAll(state -> x.inState(state)));
        unchanged("depth", x -> forAll(cell -> x.depth(cell)));
        unchanged("total", x -> forAll(part -> x.total(37 * part)));
    }

    private static void forAll(IntConsumer question) {
        for (int argument = -2; argument < 38; argument++) {
            question.accept(argument);
        }
    }

    private static void unchanged(String name, Consumer<SpillSheet> calls) {
        SpillSheet x = Check.mixedSheet();
        calls.accept(x);
        Check.due("after " + name, Check.picture(x).equals(UNTOUCHED) ? 1 : 0, 1);
    }

    private static void refusedChangesNothing() {
        Check.sentence("A refused call changes nothing.");
        for (int cell : new int[] {0, 1, 5, 11, 12, 13, 20, 34, 35}) {
            refused("number", -2, x -> x.number(cell, 1001));
            refused("number", -2, x -> x.number(cell, -1001));
            refused("pair", -2, x -> x.pair(cell, 5, 0, 0));
            refused("pair", -2, x -> x.pair(cell, -1, 0, 0));
            refused("sum", -2, x -> x.sum(cell, 36));
            refused("spread", -2, x -> x.spread(cell, 36));
            for (int bad : new int[] {-1, 36}) {
                refused("number", -1, x -> x.number(bad, cell));
                refused("pair", -1, x -> x.pair(bad, 0, cell, cell));
                refused("pair", -3, x -> x.pair(cell, 0, bad, 0));
                refused("pair", -3, x -> x.pair(cell, 0, 0, bad));
                refused("sum", -1, x -> x.sum(bad, cell));
                refused("choice", -1, x -> x.choice(bad, cell, cell, cell));
                refused("choice", -2, x -> x.choice(cell, bad, 0, 0));
                refused("choice", -2, x -> x.choice(cell, 0, bad, 0));
                refused("choice", -2, x -> x.choice(cell, 0, 0, bad));
                refused("spread", -1, x -> x.spread(bad, cell));
                refused("erase", -1, x -> x.erase(bad));
                refused("copy", -1, x -> x.copy(cell, bad));
                refused("copy", -1, x -> x.copy(bad, cell));
            }
        }
    }

    private static void refused(String name, int want, ToIntFunction<SpillSheet> call) {
        SpillSheet x = Check.mixedSheet();
        Check.due("refused " + name, call.applyAsInt(x), want);
        Check.due("after a refused " + name, Check.picture(x).equals(UNTOUCHED) ? 1 : 0, 1);
    }

    private static void orderOfTests() {
        Check.sentence("In every method the tests are made in the order named");
        SpillSheet x = new SpillSheet();
        for (int bad : Check.BAD_CELLS) {
            Check.due("number: cell before number", x.number(bad, 1001), -1);
            Check.due("pair: cell before operation", x.pair(bad, 5, 0, 0), -1);
            Check.due("pair: cell before a and b", x.pair(bad, 0, bad, bad), -1);
            Check.due("pair: cell before all", x.pair(bad, -1, bad, bad), -1);
            Check.due("pair: operation before a", x.pair(0, 5, bad, 0), -2);
            Check.due("pair: operation before b", x.pair(0, -1, 0, bad), -2);
            Check.due("sum: cell before rectangle", x.sum(bad, 36), -1);
            Check.due("choice: cell before a", x.choice(bad, bad, 0, 0), -1);
            Check.due("choice: cell before b", x.choice(bad, 0, bad, 0), -1);
            Check.due("choice: cell before c", x.choice(bad, 0, 0, bad), -1);
            Check.due("spread: cell before rectangle", x.spread(bad, 1296), -1);
        }
    }

    private static void call512() {
        Check.sentence("An object is used for at most 512 calls");
        for (int last = 0; last < 4; last++) {
            SpillSheet x = new SpillSheet();
            x.number(0, 1);
            x.spread(6, Check.size(1, 2));
            for (int call = 3; call <= 510; call++) {
                x.pair(1, call % 5, 0, 0);
            }
            switch (last) {
                case 0 -> Check.due("call 511, value", x.value(7), 2);
                case 1 -> Check.due("call 511, spread", x.spread(12, Check.size(1, 2)), 1);
                case 2 -> Check.due("call 511, erase", x.erase(1), 1);
                default -> Check.due("call 511, copy", x.copy(1, 0), 1);
            }
            Check.due("call 512", x.inState(3), last == 3 ? 4 : 0);
        }
    }
}

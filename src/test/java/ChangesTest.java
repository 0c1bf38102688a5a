/** Promises 1 to 8, ordinary inputs: a new object and the calls that change it. */
public final class ChangesTest {
    public static void main(String[] args) {
        newObject();
        objectsAreApart();
        numberOrdinary();
        pairOrdinary();
        pairWraps();
        sumOrdinary();
        choiceOrdinary();
        spreadOpen();
        spreadBlockedByEdge();
        spreadBlockedByContent();
        spreadBlockedBySpread();
        eraseOrdinary();
        copyNumberAndEmpty();
        copyFormulas();
        copyBroken();
        everyContentReplacesEveryOther();
        Check.finish();
    }

    private static void newObject() {
        SpillSheet x = new SpillSheet();
        for (int cell = 0; cell < 36; cell++) {
            Check.due("new: kind " + cell, x.kind(cell), 0);
            Check.due("new: state " + cell, x.state(cell), 0);
            Check.due("new: value " + cell, x.value(cell), 0);
            Check.due("new: shows " + cell, x.shows(cell), -2);
            Check.due("new: owner " + cell, x.owner(cell), -2);
            Check.due("new: sources " + cell, x.sources(cell), 0L);
            Check.due("new: readers " + cell, x.readers(cell), 0L);
            Check.due("new: depth " + cell, x.depth(cell), 1);
        }
        Check.due("new: inState 0", x.inState(0), 36);
        Check.due("new: inState 1", x.inState(1), 0);
        Check.due("new: inState 2", x.inState(2), 0);
        Check.due("new: inState 3", x.inState(3), 0);
        Check.due("new: total", x.total(35), 0);
        Check.due("new: erase", x.erase(35), 0);
    }

    private static void objectsAreApart() {
        SpillSheet x = new SpillSheet();
        x.number(3, 4);
        SpillSheet y = new SpillSheet();
        y.number(4, 9);
        Check.due("apart: first keeps its number", x.value(3), 4);
        Check.due("apart: first has not the second's", x.kind(4), 0);
        Check.due("apart: second has not the first's", y.kind(3), 0);
    }

    private static void numberOrdinary() {
        SpillSheet x = new SpillSheet();
        int[] numbers = {0, 1, -1, 7, 999, 1000, -999, -1000};
        for (int number : numbers) {
            Check.due("number(35, " + number + ")", x.number(35, number), 0);
            Check.due("number: value of " + number, x.value(35), number);
            Check.due("number: kind of " + number, x.kind(35), 1);
            Check.due("number: state of " + number, x.state(35), 1);
        }
        Check.due("number(0, 5)", x.number(0, 5), 0);
        Check.due("number: other cell stays", x.value(35), -1000);
    }

    private static void pairOrdinary() {
        SpillSheet x = new SpillSheet();
        x.number(0, 7);
        x.number(1, -3);
        int[] wants = {4, 10, -21, -3, 7};
        int[] swapped = {4, -10, -21, -3, 7};
        for (int operation = 0; operation < 5; operation++) {
            Check.due("pair " + operation, x.pair(35, operation, 0, 1), 0);
            Check.due("pair: kind " + operation, x.kind(35), 2);
            Check.due("pair: value " + operation, x.value(35), wants[operation]);
            Check.due("pair: sources " + operation, x.sources(35), Check.set(0, 1));
            Check.due("pair swapped " + operation, x.pair(35, operation, 1, 0), 0);
            Check.due("pair swapped: value " + operation, x.value(35), swapped[operation]);
        }
        Check.due("pair of one cell", x.pair(34, 2, 0, 0), 0);
        Check.due("pair of one cell: value", x.value(34), 49);
        Check.due("pair of empty cells", x.pair(33, 0, 20, 21), 0);
        Check.due("pair of empty cells: state", x.state(33), 1);
        Check.due("pair of empty cells: value", x.value(33), 0);
        Check.due("pair at the edges", x.pair(0, 0, 35, 35), 0);
    }

    private static void pairWraps() {
        SpillSheet x = new SpillSheet();
        x.number(0, -1000);
        x.pair(1, 2, 0, 0);
        x.pair(2, 2, 1, 0);
        Check.due("wrap: a thousand millions below", x.value(2), -1000000000);
        x.pair(3, 0, 2, 2);
        x.pair(4, 0, 3, 2);
        Check.due("wrap: plus", x.value(4), 1294967296);
        x.pair(5, 1, 3, 4);
        Check.due("wrap: minus", x.value(5), 1000000000);
        x.pair(6, 2, 1, 1);
        Check.due("wrap: times", x.value(6), -727379968);
        x.pair(7, 3, 3, 4);
        Check.due("wrap: lesser of far ones", x.value(7), -2000000000);
        x.pair(8, 4, 3, 4);
        Check.due("wrap: greater of far ones", x.value(8), 1294967296);
        x.pair(9, 3, 4, 3);
        Check.due("wrap: lesser, swapped", x.value(9), -2000000000);
        x.sum(10, Check.rectangle(2, 3));
        Check.due("wrap: sum", x.value(10), 1294967296);
        Check.due("wrap: total", x.total(Check.rectangle(2, 3)), 1294967296);
    }

    private static void sumOrdinary() {
        SpillSheet x = new SpillSheet();
        x.number(0, 1);
        x.number(1, 2);
        x.number(6, 4);
        x.number(7, 8);
        x.number(8, 16);
        Check.due("sum of one", x.sum(35, Check.rectangle(8, 8)), 1);
        Check.due("sum of one: value", x.value(35), 16);
        Check.due("sum of a row", x.sum(35, Check.rectangle(6, 8)), 3);
        Check.due("sum of a row: value", x.value(35), 28);
        Check.due("sum of a column", x.sum(35, Check.rectangle(1, 19)), 4);
        Check.due("sum of a column: value", x.value(35), 10);
        Check.due("sum of two rows", x.sum(35, Check.rectangle(0, 8)), 6);
        Check.due("sum of two rows: value", x.value(35), 31);
        Check.due("sum: kind", x.kind(35), 3);
        Check.due("sum: sources", x.sources(35), Check.set(0, 1, 2, 6, 7, 8));
        Check.due("sum of all", x.sum(35, 35), 36);
        Check.due("sum of all holds itself", x.state(35), 2);
        Check.due("sum of the last", x.sum(0, 1295), 1);
        Check.due("sum of empty cells", x.sum(20, Check.rectangle(26, 34)), 6);
        Check.due("sum of empty cells: state", x.state(20), 1);
    }

    private static void choiceOrdinary() {
        SpillSheet x = new SpillSheet();
        x.number(1, 11);
        x.number(2, 22);
        Check.due("choice", x.choice(35, 0, 1, 2), 0);
        Check.due("choice: kind", x.kind(35), 4);
        Check.due("choice: empty is not above 0", x.value(35), 22);
        x.number(0, 1);
        Check.due("choice: 1", x.value(35), 11);
        x.number(0, 0);
        Check.due("choice: 0", x.value(35), 22);
        x.number(0, -1);
        Check.due("choice: -1", x.value(35), 22);
        Check.due("choice: sources", x.sources(35), Check.set(0, 1, 2));
        Check.due("choice at the edge", x.choice(0, 35, 35, 35), 0);
    }

    private static void spreadOpen() {
        SpillSheet x = new SpillSheet();
        x.number(0, 3);
        x.number(7, 4);
        Check.due("spread open", x.spread(22, Check.rectangle(0, 7)), 1);
        Check.due("spread: kind", x.kind(22), 5);
        Check.due("spread: kind in its area", x.kind(23), 0);
        Check.due("spread: own value", x.value(22), 3);
        Check.due("spread: value in its area", x.value(29), 4);
        Check.due("spread of one, last cell", x.spread(35, 0), 1);
        Check.due("spread of the last cell", x.spread(34, 1295), 1);
        Check.due("spread over all", new SpillSheet().spread(0, 35), 1);
        Check.due("spread to the right edge", new SpillSheet().spread(3, Check.rectangle(0, 2)), 1);
        Check.due("spread to the lower edge", new SpillSheet().spread(18, Check.rectangle(0, 12)), 1);
    }

    private static void spreadBlockedByEdge() {
        SpillSheet x = new SpillSheet();
        Check.due("spread beyond the right edge", x.spread(5, Check.rectangle(0, 1)), 0);
        Check.due("spread beyond the right edge by one", x.spread(4, Check.rectangle(0, 2)), 0);
        Check.due("spread beyond the lower edge", x.spread(30, Check.rectangle(0, 6)), 0);
        Check.due("spread beyond the lower edge by one", x.spread(24, Check.rectangle(0, 12)), 0);
        Check.due("spread beyond both", x.spread(35, 35), 0);
        Check.due("spread blocked: kind", x.kind(35), 5);
        Check.due("spread blocked: state", x.state(35), 3);
        Check.due("spread blocked: none owned", x.owner(6), -2);
        Check.due("spread blocked: not its own", x.owner(5), -2);
        Check.due("spread over all but from 1", new SpillSheet().spread(1, 35), 0);
    }

    private static void spreadBlockedByContent() {
        int block = Check.rectangle(0, 7);
        for (int corner : new int[] {22, 27, 28}) {
            SpillSheet x = new SpillSheet();
            x.number(corner, 0);
            Check.due("spread blocked by " + corner, x.spread(21, block), 0);
            x.erase(corner);
            Check.due("spread free of " + corner, x.owner(21), 21);
            x.pair(corner, 0, 0, 0);
            Check.due("spread blocked by pair in " + corner, x.owner(21), -2);
            x.copy(corner, 1);
            x.copy(1, corner);
            x.copy(20, corner);
            Check.due("spread free by copied empty", x.owner(corner), 21);
            x.spread(corner, 0);
            Check.due("spread blocked by a spread in its area", x.owner(21), -2);
            Check.due("the spread in the area is open", x.owner(corner), corner);
        }
        SpillSheet x = new SpillSheet();
        x.number(21, 8);
        Check.due("spread over its own old content", x.spread(21, block), 1);
        x.number(23, 1);
        x.number(33, 1);
        x.number(20, 1);
        x.number(15, 1);
        Check.due("spread with all neighbours filled", x.owner(28), 21);
    }

    private static void spreadBlockedBySpread() {
        SpillSheet x = new SpillSheet();
        int row = Check.rectangle(24, 25);
        int column = Check.rectangle(24, 30);
        Check.due("the row alone", x.spread(6, row), 1);
        Check.due("the column comes before", x.spread(1, column), 1);
        Check.due("the row gives way", x.owner(6), -2);
        Check.due("the shared cell is the column's", x.owner(7), 1);
        Check.due("the row again is blocked", x.spread(6, row), 0);
        x.number(7, 1);
        Check.due("both blocked by a number", x.owner(1), -2);
        Check.due("the row too", x.owner(6), -2);
        x.erase(7);
        x.number(13, 1);
        Check.due("a longer column is blocked", x.spread(1, Check.rectangle(18, 30)), 0);
        Check.due("a blocked one takes no cells", x.owner(7), 6);
        x.erase(1);
        Check.due("the row alone again", x.shows(7), 25);
        SpillSheet y = new SpillSheet();
        y.spread(1, Check.rectangle(0, 6));
        y.spread(6, Check.rectangle(0, 1));
        y.spread(8, Check.rectangle(0, 6));
        Check.due("first of three", y.owner(7), 1);
        Check.due("second of three is blocked", y.owner(6), -2);
        Check.due("third of three", y.owner(14), 8);
    }

    private static void eraseOrdinary() {
        SpillSheet x = new SpillSheet();
        Check.due("erase an empty one", x.erase(0), 0);
        x.number(0, 0);
        Check.due("erase a number 0", x.erase(0), 1);
        Check.due("erase again", x.erase(0), 0);
        x.pair(35, 0, 35, 35);
        Check.due("erase a pair", x.erase(35), 1);
        x.sum(35, 35);
        Check.due("erase a sum", x.erase(35), 1);
        x.choice(35, 0, 0, 0);
        Check.due("erase a choice", x.erase(35), 1);
        x.spread(35, 35);
        Check.due("erase a blocked spread", x.erase(35), 1);
        x.spread(0, 7);
        Check.due("erase a cell that only shows", x.erase(7), 0);
        Check.due("the spread stays", x.owner(7), 0);
        Check.due("erase an open spread", x.erase(0), 1);
        Check.due("its area is free", x.owner(7), -2);
        x.pair(1, 0, 0, 0);
        x.copy(1, 0);
        Check.due("erase a broken one", x.erase(0), 1);
        Check.due("erased: kind", x.kind(0), 0);
        Check.due("erased: state", x.state(0), 0);
    }

    private static void copyNumberAndEmpty() {
        SpillSheet x = new SpillSheet();
        x.number(0, -12);
        Check.due("copy a number", x.copy(0, 35), 0);
        Check.due("copied number", x.value(35), -12);
        Check.due("original number", x.value(0), -12);
        Check.due("copy a number up", x.copy(35, 3), 0);
        Check.due("copied number up", x.value(3), -12);
        Check.due("copy an empty cell", x.copy(20, 35), 0);
        Check.due("copied empty", x.kind(35), 0);
        x.spread(6, 0);
        x.spread(12, Check.rectangle(0, 1));
        Check.due("copy a cell that only shows", x.copy(13, 3), 0);
        Check.due("copied is its content, empty", x.kind(3), 0);
    }

    private static void copyFormulas() {
        SpillSheet x = new SpillSheet();
        x.number(8, 5);
        x.number(15, 3);
        x.pair(14, 1, 1, 8);
        Check.due("copy a pair", x.copy(14, 21), 0);
        Check.due("copied pair: sources", x.sources(21), Check.set(8, 15));
        Check.due("copied pair keeps operation and order", x.value(21), 2);
        Check.due("copy a pair to the corner", x.copy(21, 19), 0);
        Check.due("pair moved left", x.sources(19), Check.set(6, 13));
        x.sum(22, Check.rectangle(14, 21));
        Check.due("copy a sum", x.copy(22, 17), 0);
        Check.due("copied sum: kind", x.kind(17), 3);
        Check.due("copied sum: value", x.value(17), 3);
        Check.due("copied sum: sources", x.sources(17), Check.set(9, 10, 15, 16));
        SpillSheet y = new SpillSheet();
        y.choice(7, 0, 1, 6);
        Check.due("copy a choice", y.copy(7, 35), 0);
        Check.due("copied choice: kind", y.kind(35), 4);
        Check.due("copied choice: sources", y.sources(35), Check.set(28, 29, 34));
        y.number(29, 6);
        y.number(34, 9);
        Check.due("copied choice: c", y.value(35), 9);
        y.number(28, 1);
        Check.due("copied choice: b", y.value(35), 6);
        SpillSheet z = new SpillSheet();
        z.spread(12, Check.rectangle(0, 7));
        Check.due("copy a spread", z.copy(12, 15), 0);
        Check.due("copied spread shows", z.shows(22), 10);
        Check.due("copied spread owns", z.owner(22), 15);
        Check.due("copy a spread where it is blocked", z.copy(12, 16), 0);
        Check.due("copied into an area: kind", z.kind(16), 5);
        Check.due("copied into an area blocks the first", z.owner(15), -2);
    }

    private static void copyBroken() {
        SpillSheet x = new SpillSheet();
        x.pair(7, 0, 0, 0);
        x.copy(7, 1);
        Check.due("broken: state", x.state(1), 3);
        Check.due("broken: value", x.value(1), 0);
        Check.due("broken: sources", x.sources(1), 0L);
        Check.due("copy a broken one", x.copy(1, 30), 1);
        Check.due("copied broken: kind", x.kind(30), 6);
        Check.due("copy back does not heal", x.copy(1, 7), 1);
    }

    private static void everyContentReplacesEveryOther() {
        for (int first = 0; first < 7; first++) {
            for (int second = 0; second < 7; second++) {
                SpillSheet x = new SpillSheet();
                x.number(1, 4);
                x.number(2, 6);
                x.pair(35, 0, 0, 0);
                fill(x, first);
                Check.due("kind " + first, x.kind(7), first);
                fill(x, second);
                Check.due("kind " + second + " after " + first, x.kind(7), second);
                int[] values = {0, 8, -2, 10, 6, 4, 0};
                Check.due("value of " + second + " after " + first, x.value(7), values[second]);
                long[] sources = {0, 0, 6, 6, 14, 2, 0};
                Check.due("sources of " + second + " after " + first, x.sources(7), sources[second]);
                Check.due("owner beside, " + second + " after " + first, x.owner(8), second == 5 ? 7 : -2);
            }
        }
    }

    private static void fill(SpillSheet x, int kind) {
        switch (kind) {
            case 0 -> x.erase(7);
            case 1 -> x.number(7, 8);
            case 2 -> x.pair(7, 1, 1, 2);
            case 3 -> x.sum(7, Check.rectangle(1, 2));
            case 4 -> x.choice(7, 1, 2, 3);
            case 5 -> x.spread(7, Check.rectangle(1, 2));
            default -> x.copy(35, 7);
        }
    }
}

/** The boundary cases in promises 9 to 18, with a method for each sentence that names one. */
public final class QuestionsEdgesTest {
    private static final int WHOLE = Check.size(6, 6);

    public static void main(String[] args) {
        kindOfEach();
        kindOfBadCell();
        stateOfEach();
        stateOfBadCell();
        valueOfBadCell();
        valueWraps();
        showsBadCell();
        showsNone();
        ownerOfBadCell();
        ownerNone();
        sourcesAsSum();
        sourcesOfBadCell();
        readersAsSum();
        readersOfBadCell();
        readersMirrorSources();
        inStateCounts();
        inStateBounds();
        depthOfNone();
        depthOfChains();
        depthOfBadCell();
        depthOfLoop();
        totalOfEach();
        totalWraps();
        totalOfBadRectangle();
        Check.finish();
    }

    /** A sheet where no good argument gets the answer of a bad one. */
    private static SpillSheet fullSheet() {
        SpillSheet x = new SpillSheet();
        for (int cell = 0; cell < 36; cell++) {
            x.number(cell, 7);
        }
        return x;
    }

    private static void kindOfEach() {
        Check.sentence("0 empty, 1 number, 2 pair, 3 sum, 4 choice, 5 spread, 6 broken");
        for (int cell = 0; cell < 36; cell++) {
            for (int kind = 0; kind < 7; kind++) {
                SpillSheet x = new SpillSheet();
                Check.put(x, cell, kind);
                Check.due("kind of " + cell, x.kind(cell), kind);
            }
        }
        SpillSheet x = new SpillSheet();
        x.spread(35, WHOLE);
        Check.due("a blocked spread", x.kind(35), 5);
        x.spread(0, Check.size(1, 2));
        Check.due("an empty cell that shows one", x.kind(1), 0);
        x.pair(10, 0, 10, 10);
        Check.due("a formula in a loop", x.kind(10), 2);
    }

    private static void kindOfBadCell() {
        Check.sentence("kind: -1 if cell is not good");
        SpillSheet x = fullSheet();
        for (int bad : Check.BAD_CELLS) {
            Check.due("kind " + bad, x.kind(bad), -1);
        }
        Check.due("kind 0", x.kind(0), 1);
        Check.due("kind 35", x.kind(35), 1);
    }

    private static void stateOfEach() {
        Check.sentence("The state of a cell");
        for (int cell = 1; cell < 35; cell++) {
            SpillSheet x = new SpillSheet();
            Check.due("an empty cell " + cell, x.state(cell), 0);
            x.number(cell, 0);
            Check.due("a number in " + cell, x.state(cell), 1);
            x.pair(cell, 0, 0, cell);
            Check.due("a loop in " + cell, x.state(cell), 2);
            x.spread(cell, WHOLE);
            Check.due("a blocked spread in " + cell, x.state(cell), 3);
        }
    }

    private static void stateOfBadCell() {
        Check.sentence("state: -1 if cell is not good");
        SpillSheet x = fullSheet();
        for (int bad : Check.BAD_CELLS) {
            Check.due("state " + bad, x.state(bad), -1);
        }
        Check.due("state 0", x.state(0), 1);
        Check.due("state 35", x.state(35), 1);
    }

    private static void valueOfBadCell() {
        Check.sentence("0 if cell is not good");
        SpillSheet x = fullSheet();
        for (int bad : Check.BAD_CELLS) {
            Check.due("value " + bad, x.value(bad), 0);
        }
        Check.due("value 0", x.value(0), 7);
        Check.due("value 35", x.value(35), 7);
    }

    private static void valueWraps() {
        Check.sentence("The value of a cell");
        SpillSheet x = Check.farSheet();
        x.spread(0, Check.rectangle(31, 32));
        Check.due("the least int, shown", x.value(0), Integer.MIN_VALUE);
        Check.due("the greatest int, shown", x.value(1), Integer.MAX_VALUE);
        x.pair(2, 0, 1, 30);
        Check.due("the greatest and 1", x.value(2), Integer.MIN_VALUE);
        x.pair(3, 2, 1, 1);
        Check.due("the greatest times itself", x.value(3), 1);
        x.sum(4, Check.rectangle(0, 2));
        Check.due("the sum of these", x.value(4), Integer.MAX_VALUE);
        // Powers of 1000 by squaring: the ints wrap from the fourth power on.
        x.number(6, 1000);
        x.pair(7, 2, 6, 6);
        x.pair(8, 2, 7, 7);
        x.pair(9, 2, 8, 8);
        Check.due("1000 to the second", x.value(7), 1000000);
        Check.due("1000 to the fourth", x.value(8), (int) 1000000000000L);
        Check.due("1000 to the eighth", x.value(9), (int) 1000000000000L * (int) 1000000000000L);
    }

    private static void showsBadCell() {
        Check.sentence("shows: -1 if cell is not good");
        SpillSheet x = new SpillSheet();
        x.spread(0, WHOLE);
        for (int bad : Check.BAD_CELLS) {
            Check.due("shows " + bad, x.shows(bad), -1);
            Check.due("shows " + bad + " of an empty sheet", new SpillSheet().shows(bad), -1);
        }
        Check.due("shows 0", x.shows(0), 0);
        Check.due("shows 35", x.shows(35), 35);
    }

    private static void showsNone() {
        Check.sentence("-2 if it shows none");
        for (int cell = 0; cell < 36; cell++) {
            for (int kind = 0; kind < 7; kind++) {
                SpillSheet x = new SpillSheet();
                Check.put(x, cell, kind);
                Check.due("shows of kind " + kind, x.shows(cell), kind == 5 ? 0 : -2);
            }
        }
        SpillSheet x = new SpillSheet();
        x.spread(14, Check.size(2, 2));
        for (int beside : new int[] {7, 8, 9, 10, 13, 16, 19, 22, 25, 26, 27, 28}) {
            Check.due("beside the area, " + beside, x.shows(beside), -2);
        }
        for (int shown : new int[] {0, 1, 6, 7}) {
            Check.due("one that is shown, " + shown, x.shows(shown), -2);
        }
        x.number(21, 0);
        Check.due("a blocked spread", x.shows(14), -2);
        Check.due("the empty rest of its area", x.shows(15), -2);
    }

    private static void ownerOfBadCell() {
        Check.sentence("owner: -1 if cell is not good");
        SpillSheet x = new SpillSheet();
        x.spread(0, WHOLE);
        for (int bad : Check.BAD_CELLS) {
            Check.due("owner " + bad, x.owner(bad), -1);
            Check.due("owner " + bad + " of an empty sheet", new SpillSheet().owner(bad), -1);
        }
        Check.due("owner 0", x.owner(0), 0);
        Check.due("owner 35", x.owner(35), 0);
    }

    private static void ownerNone() {
        Check.sentence("-2 if it is in none");
        for (int cell = 0; cell < 36; cell++) {
            for (int kind = 0; kind < 7; kind++) {
                SpillSheet x = new SpillSheet();
                Check.put(x, cell, kind);
                Check.due("owner of kind " + kind, x.owner(cell), kind == 5 ? cell : -2);
            }
        }
        SpillSheet x = new SpillSheet();
        x.spread(14, Check.size(2, 2));
        for (int beside : new int[] {7, 8, 9, 10, 13, 16, 19, 22, 25, 26, 27, 28}) {
            Check.due("beside the area, " + beside, x.owner(beside), -2);
        }
        Check.due("a cell of the rectangle", x.owner(0), -2);
        Check.due("the last cell of the area", x.owner(21), 14);
        x.number(21, 0);
        Check.due("a blocked spread", x.owner(14), -2);
        Check.due("the empty rest of its area", x.owner(20), -2);
        Check.due("what blocks it", x.owner(21), -2);
    }

    private static void sourcesAsSum() {
        Check.sentence("The set, as the sum of 2^cell, of all cells that a cell depends on");
        Check.due("none", new SpillSheet().sources(20), 0L);
        for (int cell = 0; cell < 36; cell++) {
            SpillSheet x = new SpillSheet();
            x.pair(cell == 20 ? 21 : 20, 0, cell, cell);
            Check.due("one, " + cell, x.sources(cell == 20 ? 21 : 20), 1L << cell);
            x.pair(cell, 0, cell, cell);
            Check.due("itself, " + cell, x.sources(cell), 1L << cell);
            SpillSheet y = new SpillSheet();
            y.sum(cell, WHOLE);
            Check.due("all, " + cell, y.sources(cell), 68719476735L);
        }
        SpillSheet x = new SpillSheet();
        x.pair(0, 0, 31, 32);
        Check.due("beyond the bits of an int", x.sources(0), 2147483648L + 4294967296L);
        x.pair(0, 0, 35, 35);
        Check.due("the last cell, named twice", x.sources(0), 34359738368L);
        x.pair(35, 0, 0, 0);
        Check.due("itself by another", x.sources(0), Check.set(0, 35));
    }

    private static void sourcesOfBadCell() {
        Check.sentence("sources: -1 if cell is not good");
        SpillSheet x = new SpillSheet();
        x.sum(0, WHOLE);
        for (int bad : Check.BAD_CELLS) {
            Check.due("sources " + bad, x.sources(bad), -1L);
        }
        Check.due("sources 0", x.sources(0), Check.ALL_CELLS);
        Check.due("sources 35", x.sources(35), 0L);
    }

    private static void readersAsSum() {
        Check.sentence("The set, as the sum of 2^cell, of all cells that depend on a cell");
        Check.due("none", new SpillSheet().readers(20), 0L);
        for (int cell = 0; cell < 36; cell++) {
            SpillSheet x = new SpillSheet();
            int named = cell == 20 ? 21 : 20;
            x.pair(cell, 0, named, named);
            Check.due("one, " + cell, x.readers(named), 1L << cell);
            Check.due("none of the reader", x.readers(cell), 0L);
            x.pair(cell, 0, cell, cell);
            Check.due("itself, " + cell, x.readers(cell), 1L << cell);
        }
        SpillSheet x = new SpillSheet();
        for (int cell = 0; cell < 36; cell++) {
            x.pair(cell, 0, 17, 17);
        }
        Check.due("all", x.readers(17), 68719476735L);
        Check.due("none beside", x.readers(18), 0L);
        SpillSheet y = new SpillSheet();
        y.number(0, 1);
        for (int cell = 1; cell < 36; cell++) {
            y.pair(cell, 0, cell - 1, cell - 1);
        }
        Check.due("all but itself, by a chain", y.readers(0), 68719476734L);
        Check.due("the last cell only", y.readers(34), 34359738368L);
        y.pair(0, 0, 35, 35);
        Check.due("all, by a loop", y.readers(0), 68719476735L);
    }

    private static void readersOfBadCell() {
        Check.sentence("readers: -1 if cell is not good");
        SpillSheet x = new SpillSheet();
        x.sum(0, WHOLE);
        for (int bad : Check.BAD_CELLS) {
            Check.due("readers " + bad, x.readers(bad), -1L);
        }
        Check.due("readers 0", x.readers(0), Check.set(0));
        Check.due("readers 35", x.readers(35), Check.set(0));
    }

    private static void readersMirrorSources() {
        Check.sentence("of all cells that depend on a cell");
        SpillSheet x = Check.mixedSheet();
        long[] sources = new long[36];
        for (int cell = 0; cell < 36; cell++) {
            sources[cell] = x.sources(cell);
        }
        for (int cell = 0; cell < 36; cell++) {
            long want = 0L;
            for (int reader = 0; reader < 36; reader++) {
                want |= (sources[reader] >>> cell & 1L) << reader;
            }
            Check.due("readers of " + cell, x.readers(cell), want);
        }
    }

    private static void inStateCounts() {
        Check.sentence("How many cells have a state");
        SpillSheet x = new SpillSheet();
        due(x, 36, 0, 0, 0);
        x.spread(0, WHOLE);
        due(x, 0, 0, 36, 0);
        x.spread(0, Check.rectangle(35, 35));
        due(x, 35, 1, 0, 0);
        x.spread(35, WHOLE);
        due(x, 34, 0, 0, 2);
        SpillSheet full = fullSheet();
        due(full, 0, 36, 0, 0);
        for (int cell = 1; cell < 36; cell++) {
            full.spread(cell, WHOLE);
        }
        due(full, 0, 1, 0, 35);
        full.sum(0, Check.rectangle(1, 1));
        due(full, 0, 0, 0, 36);
    }

    private static void due(SpillSheet x, int empty, int valued, int loops, int failures) {
        Check.due("inState(0)", x.inState(0), empty);
        Check.due("inState(1)", x.inState(1), valued);
        Check.due("inState(2)", x.inState(2), loops);
        Check.due("inState(3)", x.inState(3), failures);
    }

    private static void inStateBounds() {
        Check.sentence("-1 if state is not in 0 .. 3");
        for (int bad : new int[] {Integer.MIN_VALUE, -2, -1, 4, 5, 35, Integer.MAX_VALUE}) {
            Check.due("inState " + bad, new SpillSheet().inState(bad), -1);
            Check.due("inState " + bad + " of a full sheet", fullSheet().inState(bad), -1);
        }
    }

    private static void depthOfNone() {
        Check.sentence("The greatest number k of cells c1, .., ck with c1 the given cell");
        for (int kind = 0; kind < 7; kind++) {
            SpillSheet x = new SpillSheet();
            Check.put(x, 20, kind);
            Check.due("depth of kind " + kind, x.depth(20), kind >= 2 && kind <= 5 ? 2 : 1);
        }
        SpillSheet x = new SpillSheet();
        x.spread(35, WHOLE);
        Check.due("a blocked spread", x.depth(35), 1);
        x.pair(0, 0, 35, 35);
        Check.due("a reader of it, in state 3", x.depth(0), 2);
    }

    private static void depthOfChains() {
        Check.sentence("each of which depends directly on the next");
        for (int length = 1; length <= 36; length++) {
            SpillSheet x = new SpillSheet();
            for (int cell = 0; cell < length - 1; cell++) {
                x.pair(cell, 0, cell + 1, 35);
            }
            Check.due("chain of " + length, x.depth(0), length);
        }
        SpillSheet x = new SpillSheet();
        x.pair(0, 0, 1, 2);
        x.pair(1, 0, 3, 3);
        x.choice(2, 4, 5, 3);
        x.sum(5, Check.rectangle(6, 8));
        x.pair(7, 0, 3, 3);
        Check.due("the longest way of several", x.depth(0), 5);
        x.erase(7);
        Check.due("a shorter one then", x.depth(0), 4);
        x.spread(5, Check.rectangle(6, 8));
        Check.due("through a blocked spread, in state 3", x.depth(0), 3);
        SpillSheet y = new SpillSheet();
        y.spread(1, Check.rectangle(0, 4));
        Check.due("along a spread's own area", y.depth(5), 6);
        Check.due("from its start", y.depth(1), 2);
    }

    private static void depthOfBadCell() {
        Check.sentence("depth: -1 if cell is not good");
        SpillSheet x = fullSheet();
        for (int bad : Check.BAD_CELLS) {
            Check.due("depth " + bad, x.depth(bad), -1);
        }
        Check.due("depth 0", x.depth(0), 1);
        Check.due("depth 35", x.depth(35), 1);
    }

    private static void depthOfLoop() {
        Check.sentence("-2 if its state is 2");
        SpillSheet x = new SpillSheet();
        x.pair(0, 0, 0, 35);
        Check.due("in a loop of one", x.depth(0), -2);
        x.pair(1, 0, 35, 0);
        Check.due("behind it", x.depth(1), -2);
        Check.due("before it", x.depth(35), 1);
        x.spread(35, WHOLE);
        Check.due("in a loop and behind a blocked spread", x.depth(0), -2);
        Check.due("the blocked spread", x.depth(35), 1);
        x.number(0, 1);
        Check.due("the loop cut", x.depth(1), 2);
        SpillSheet y = new SpillSheet();
        y.spread(0, WHOLE);
        for (int cell = 0; cell < 36; cell++) {
            Check.due("each shows itself, " + cell, y.depth(cell), -2);
        }
    }

    private static void totalOfEach() {
        Check.sentence("The sum of the values of a rectangle's cells");
        for (int start = 0; start < 36; start++) {
            SpillSheet x = new SpillSheet();
            for (int cell = 0; cell < 36; cell++) {
                x.number(cell, cell * cell - 500);
            }
            for (int end = 0; end < 36; end++) {
                int want = 0;
                for (int row = start / 6; row <= end / 6 && start % 6 <= end % 6; row++) {
                    for (int column = start % 6; column <= end % 6; column++) {
                        int cell = Check.cell(row, column);
                        want += cell * cell - 500;
                    }
                }
                Check.due("total " + start + " to " + end, x.total(Check.rectangle(start, end)), want);
            }
        }
        SpillSheet x = fullSheet();
        x.pair(0, 0, 0, 0);
        x.spread(1, WHOLE);
        x.erase(2);
        Check.due("a loop, a failure and an empty cell count as 0", x.total(WHOLE), 33 * 7);
        Check.due("of these alone", x.total(Check.rectangle(0, 2)), 0);
    }

    private static void totalWraps() {
        Check.sentence("wrapping like an int");
        SpillSheet x = Check.farSheet();
        Check.due("1 and the least", x.total(Check.rectangle(30, 31)), Integer.MIN_VALUE + 1);
        Check.due("the least and the greatest", x.total(Check.rectangle(31, 32)), -1);
        Check.due("the greatest and -1", x.total(Check.rectangle(32, 33)), Integer.MAX_VALUE - 1);
        x.number(33, 1);
        Check.due("the greatest and 1", x.total(Check.rectangle(32, 33)), Integer.MIN_VALUE);
        x.pair(33, 0, 32, 34);
        Check.due("the greatest twice", x.total(Check.rectangle(32, 33)), -2);
        x.spread(0, Check.rectangle(31, 31));
        x.spread(1, Check.rectangle(31, 31));
        Check.due("the least twice", x.total(Check.rectangle(0, 1)), 0);
        for (int cell = 0; cell < 24; cell++) {
            x.pair(cell, 4, 32, 32);
        }
        Check.due("the greatest in 24 cells", x.total(Check.rectangle(0, 23)), -24);
    }

    private static void totalOfBadRectangle() {
        Check.sentence("0 if rectangle is not good");
        SpillSheet x = fullSheet();
        for (int bad : Check.BAD_RECTANGLES) {
            Check.due("total " + bad, x.total(bad), 0);
        }
        Check.due("the smallest, first", x.total(0), 7);
        Check.due("the smallest, last", x.total(1295), 7);
        Check.due("the greatest", x.total(35), 252);
    }
}

/** Promises 9 to 18, ordinary inputs: the questions. */
public final class QuestionsTest {
    public static void main(String[] args) {
        kinds();
        statesOfLoops();
        statesOfFailures();
        loopBeforeFailure();
        statesOfEmptyCells();
        valuesFollowChanges();
        valuesInOtherStates();
        showsAndOwner();
        sourcesAndReaders();
        loopsThroughSpreads();
        counts();
        depths();
        longestChain();
        totals();
        Check.finish();
    }

    private static void kinds() {
        SpillSheet x = new SpillSheet();
        x.number(1, 0);
        x.pair(2, 0, 0, 0);
        x.sum(3, 0);
        x.choice(4, 0, 0, 0);
        x.spread(5, 0);
        x.copy(3, 6);
        x.pair(7, 0, 0, 0);
        x.copy(7, 6);
        x.spread(35, 35);
        int[] kinds = {0, 1, 2, 3, 4, 5, 6};
        for (int cell = 0; cell < kinds.length; cell++) {
            Check.due("kind of " + cell, x.kind(cell), kinds[cell]);
        }
        Check.due("kind of a blocked spread", x.kind(35), 5);
    }

    private static void statesOfLoops() {
        SpillSheet x = new SpillSheet();
        x.pair(0, 0, 0, 5);
        Check.due("a loop of one", x.state(0), 2);
        x.pair(0, 0, 5, 0);
        Check.due("a loop of one by b", x.state(0), 2);
        x.pair(1, 0, 0, 5);
        Check.due("reads a loop", x.state(1), 2);
        x.pair(2, 0, 1, 5);
        Check.due("reads a reader of a loop", x.state(2), 2);
        x.choice(10, 11, 12, 10);
        x.number(11, 1);
        Check.due("a loop by what is not chosen", x.state(10), 2);
        x.sum(20, Check.rectangle(20, 22));
        Check.due("a loop by a sum", x.state(20), 2);
        x.pair(30, 0, 31, 5);
        x.pair(31, 0, 32, 5);
        x.pair(32, 0, 30, 5);
        Check.due("a loop of three", x.state(30), 2);
        Check.due("a named cell of a loop", x.state(5), 0);
        x.number(31, 2);
        Check.due("the loop is cut", x.state(30), 1);
        Check.due("and its other cell", x.state(32), 1);
        x.number(0, 2);
        Check.due("the reader is cured", x.state(2), 1);
        Check.due("with its value", x.value(2), 2);
    }

    private static void statesOfFailures() {
        SpillSheet x = new SpillSheet();
        x.spread(5, Check.rectangle(0, 1));
        Check.due("blocked", x.state(5), 3);
        Check.due("blocked names cells, depends on none", x.sources(5), 0L);
        x.pair(6, 0, 0, 5);
        Check.due("reads a blocked one", x.state(6), 3);
        x.choice(7, 0, 6, 1);
        Check.due("reads a reader of a blocked one, not chosen", x.state(7), 3);
        x.sum(8, Check.rectangle(0, 5));
        Check.due("a sum over a blocked one", x.state(8), 3);
        x.spread(30, Check.rectangle(6, 7));
        Check.due("shows a failed one", x.state(31), 3);
        Check.due("is open itself, but shows a failed one", x.state(30), 3);
        Check.due("value of it", x.value(30), 0);
        x.erase(5);
        Check.due("cured", x.state(31), 1);
        x.pair(12, 0, 0, 0);
        x.copy(12, 0);
        Check.due("broken", x.state(0), 3);
        Check.due("reads a broken one", x.state(12), 3);
        Check.due("reads it through a spread", x.state(30), 3);
    }

    private static void loopBeforeFailure() {
        SpillSheet x = new SpillSheet();
        x.spread(35, 35);
        x.pair(0, 0, 0, 35);
        Check.due("in a loop and reads a failed one", x.state(0), 2);
        x.pair(1, 0, 35, 0);
        Check.due("reads a loop and a failed one", x.state(1), 2);
        Check.due("the failed one", x.state(35), 3);
        x.spread(34, Check.rectangle(34, 35));
        Check.due("blocked, its own cell named", x.state(34), 3);
        Check.due("blocked, no sources", x.sources(34), 0L);
    }

    private static void statesOfEmptyCells() {
        SpillSheet x = new SpillSheet();
        x.spread(12, Check.rectangle(0, 1));
        Check.due("a spread showing an empty cell", x.state(12), 1);
        Check.due("an empty cell showing an empty cell", x.state(13), 1);
        Check.due("an empty cell being shown", x.state(0), 0);
        Check.due("an empty cell beside", x.state(14), 0);
        x.number(13, 0);
        Check.due("a number 0", x.state(13), 1);
    }

    private static void valuesFollowChanges() {
        SpillSheet x = new SpillSheet();
        x.number(0, 2);
        x.number(1, 3);
        x.spread(30, Check.rectangle(0, 1));
        x.spread(24, Check.rectangle(30, 31));
        x.pair(18, 2, 24, 25);
        x.sum(19, Check.rectangle(24, 31));
        Check.due("through two spreads", x.value(18), 6);
        Check.due("a sum over two spreads", x.value(19), 10);
        x.number(1, -7);
        Check.due("follows", x.value(18), -14);
        Check.due("the sum follows", x.value(19), -10);
        x.pair(0, 0, 1, 1);
        Check.due("follows a formula", x.value(18), 98);
        x.number(31, 1);
        Check.due("the lower one blocked, the upper one shows it", x.state(24), 3);
        Check.due("the upper one shows the number", x.value(25), 1);
        Check.due("no value from failed ones", x.value(18), 0);
        x.erase(31);
        Check.due("back again", x.value(18), 98);
    }

    private static void valuesInOtherStates() {
        SpillSheet x = new SpillSheet();
        x.number(1, 9);
        x.pair(0, 0, 0, 1);
        Check.due("value in a loop", x.value(0), 0);
        x.pair(2, 0, 0, 1);
        Check.due("value behind a loop", x.value(2), 0);
        x.spread(35, 35);
        x.pair(3, 4, 35, 1);
        Check.due("value behind a failed one", x.value(3), 0);
        x.choice(4, 1, 1, 35);
        Check.due("value of a choice behind a failed one, not chosen", x.value(4), 0);
        Check.due("value of an empty one", x.value(20), 0);
        Check.due("value of a blocked one", x.value(35), 0);
    }

    private static void showsAndOwner() {
        SpillSheet x = new SpillSheet();
        x.spread(15, Check.rectangle(1, 9));
        for (int row = 0; row < 6; row++) {
            for (int column = 0; column < 6; column++) {
                int cell = Check.cell(row, column);
                boolean inside = row >= 2 && row <= 3 && column >= 3;
                int shown = Check.cell(row - 2, column - 2);
                Check.due("shows " + cell, x.shows(cell), inside ? shown : -2);
                Check.due("owner " + cell, x.owner(cell), inside ? 15 : -2);
            }
        }
        x.number(23, 1);
        Check.due("shows none when blocked", x.shows(15), -2);
        Check.due("owner none when blocked", x.owner(16), -2);
        x.pair(0, 0, 1, 2);
        Check.due("a pair shows none", x.shows(0), -2);
        SpillSheet y = new SpillSheet();
        y.spread(0, Check.rectangle(0, 7));
        Check.due("shows itself", y.shows(7), 7);
        Check.due("owner 0", y.owner(7), 0);
        Check.due("shows 0", y.shows(0), 0);
    }

    private static void sourcesAndReaders() {
        SpillSheet x = new SpillSheet();
        x.pair(35, 0, 20, 21);
        x.pair(20, 0, 3, 4);
        x.sum(3, Check.rectangle(28, 29));
        x.spread(33, Check.rectangle(35, 35));
        Check.due("sources, with cells below and above", x.sources(33), Check.set(35, 20, 21, 3, 4, 28, 29));
        Check.due("sources of an empty cell", x.sources(29), 0L);
        Check.due("readers of the far end", x.readers(29), Check.set(3, 20, 35, 33));
        Check.due("readers of none", x.readers(33), 0L);
        Check.due("readers of the last cell", x.readers(35), Check.set(33));
        Check.due("readers of an empty cell", x.readers(10), 0L);
        x.pair(0, 0, 35, 34);
        Check.due("sources with the last cell", x.sources(0) & Check.set(35, 34), Check.set(35, 34));
        x.pair(28, 0, 35, 35);
        long loop = Check.set(35, 20, 3, 28);
        Check.due("sources in a loop", x.sources(20), loop | Check.set(21, 4, 29));
        Check.due("readers in a loop", x.readers(3), loop | Check.set(33, 0));
        Check.due("readers of a cell before a loop", x.readers(29), loop | Check.set(33, 0));
        Check.due("readers in a new sheet", new SpillSheet().readers(0), 0L);
        SpillSheet y = new SpillSheet();
        y.sum(0, 35);
        Check.due("sources of the sum of all", y.sources(0), (1L << 36) - 1);
        for (int cell = 1; cell < 36; cell++) {
            y.pair(cell, 0, 0, 0);
        }
        Check.due("all read all", y.readers(17), (1L << 36) - 1);
    }

    private static void loopsThroughSpreads() {
        SpillSheet x = new SpillSheet();
        Check.due("a spread over itself", x.spread(0, Check.rectangle(0, 0)), 1);
        Check.due("shows itself: state", x.state(0), 2);
        Check.due("shows itself: sources", x.sources(0), Check.set(0));
        x.spread(7, Check.rectangle(7, 8));
        Check.due("area equal to its rectangle", x.state(8), 2);
        SpillSheet y = new SpillSheet();
        y.number(6, 4);
        y.spread(7, Check.rectangle(6, 9));
        Check.due("each shows the one to its left", y.value(10), 4);
        Check.due("no loop", y.state(10), 1);
        Check.due("chain", y.depth(10), 5);
        Check.due("chain: sources", y.sources(10), Check.set(6, 7, 8, 9));
        y.spread(7, Check.rectangle(8, 10));
        Check.due("each shows the one to its right", y.depth(7), 4);
        Check.due("to its right: value", y.value(7), 0);
        y.number(10, 3);
        Check.due("to its right: value", y.value(7), 3);
        y.pair(10, 0, 7, 7);
        Check.due("a loop through the spread", y.state(8), 2);
    }

    private static void counts() {
        SpillSheet x = new SpillSheet();
        x.number(0, 1);
        x.spread(6, Check.rectangle(0, 2));
        x.spread(35, 35);
        x.pair(34, 0, 35, 35);
        x.pair(33, 0, 33, 33);
        Check.due("in state 0", x.inState(0), 29);
        Check.due("in state 1", x.inState(1), 4);
        Check.due("in state 2", x.inState(2), 1);
        Check.due("in state 3", x.inState(3), 2);
        SpillSheet y = new SpillSheet();
        y.spread(0, 35);
        Check.due("all in loops", y.inState(2), 36);
        Check.due("none empty", y.inState(0), 0);
    }

    private static void depths() {
        SpillSheet x = new SpillSheet();
        Check.due("depth of an empty cell", x.depth(0), 1);
        x.number(0, 1);
        Check.due("depth of a number", x.depth(0), 1);
        x.pair(1, 0, 0, 0);
        Check.due("depth of a pair", x.depth(1), 2);
        x.pair(2, 0, 0, 1);
        Check.due("the deeper one counts, b", x.depth(2), 3);
        x.pair(2, 0, 1, 0);
        Check.due("the deeper one counts, a", x.depth(2), 3);
        x.choice(3, 0, 1, 2);
        Check.due("the deepest one counts, c", x.depth(3), 4);
        x.sum(4, Check.rectangle(0, 3));
        Check.due("the deepest of a sum counts", x.depth(4), 5);
        x.spread(30, Check.rectangle(3, 4));
        Check.due("shown cells count", x.depth(31), 6);
        Check.due("an open spread has its own cell's depth", x.depth(30), 5);
        x.number(31, 0);
        Check.due("depth of a blocked one", x.depth(30), 1);
        x.pair(29, 0, 30, 4);
        Check.due("depth in state 3", x.depth(29), 6);
        x.pair(4, 0, 4, 4);
        Check.due("depth in a loop", x.depth(4), -2);
        Check.due("depth behind a loop", x.depth(29), -2);
        x.pair(28, 0, 30, 30);
        Check.due("depth behind a blocked one", x.depth(28), 2);
        x.copy(1, 6);
        Check.due("broken", x.kind(6), 6);
        Check.due("depth of a broken one", x.depth(6), 1);
    }

    private static void longestChain() {
        SpillSheet up = new SpillSheet();
        SpillSheet down = new SpillSheet();
        up.number(0, 3);
        down.number(35, 3);
        for (int cell = 1; cell < 36; cell++) {
            up.pair(cell, 4, cell - 1, cell - 1);
            down.pair(35 - cell, 4, 36 - cell, 36 - cell);
        }
        Check.due("the longest chain upwards", up.depth(35), 36);
        Check.due("its value", up.value(35), 3);
        Check.due("its sources", up.sources(35), (1L << 35) - 1);
        Check.due("the longest chain downwards", down.depth(0), 36);
        Check.due("its value", down.value(0), 3);
        Check.due("its readers", down.readers(35), (1L << 35) - 1);
    }

    private static void totals() {
        SpillSheet x = new SpillSheet();
        for (int cell = 0; cell < 36; cell++) {
            x.number(cell, cell * cell - 300);
        }
        for (int first = 0; first < 36; first += 5) {
            for (int last = first; last < 36; last++) {
                if (last % 6 >= first % 6) {
                    int want = 0;
                    for (int cell = first; cell <= last; cell++) {
                        if (cell % 6 >= first % 6 && cell % 6 <= last % 6) {
                            want += cell * cell - 300;
                        }
                    }
                    Check.due("total " + first + " to " + last, x.total(Check.rectangle(first, last)), want);
                }
            }
        }
        x.pair(1, 0, 1, 1);
        x.spread(2, 35);
        Check.due("loops and failures count as 0", x.total(Check.rectangle(0, 3)), -300 + 9 - 300);
    }
}

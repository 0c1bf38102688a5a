/** The boundary cases in promises 1 to 8, with a method for each sentence that names one. */
public final class ChangesEdgesTest {
    private static final int[] GOOD_CELLS = {0, 5, 6, 29, 30, 35};

    public static void main(String[] args) {
        newObjectIsEmpty();
        numberCell();
        numberBounds();
        pairCell();
        pairOperationBounds();
        pairNamedBounds();
        sumCell();
        sumRectangleBounds();
        sumCountsNamed();
        choiceCell();
        choiceNamedBounds();
        spreadCell();
        spreadRectangleBounds();
        spreadOpenOrBlocked();
        eraseCell();
        eraseEmptyOrFilled();
        copyCells();
        copyOfNoFormula();
        copyOfPair();
        copyOfChoice();
        copyOfSum();
        copyOfSpread();
        copyToEachSide();
        copyBrokenOrElse();
        copyOntoItself();
        copyThereAndBack();
        Check.finish();
    }

    private static void newObjectIsEmpty() {
        Check.sentence("All cells are empty.");
        SpillSheet x = new SpillSheet();
        for (int cell = 0; cell < 36; cell++) {
            Check.due("kind of " + cell, x.kind(cell), 0);
            Check.due("erase " + cell, x.erase(cell), 0);
            Check.due("state of " + cell, x.state(cell), 0);
        }
        Check.due("spread over all", x.spread(0, Check.size(6, 6)), 1);
    }

    private static void numberCell() {
        Check.sentence("number: -1 if cell is not good");
        for (int bad : Check.BAD_CELLS) {
            Check.due("cell " + bad, new SpillSheet().number(bad, 1), -1);
        }
        for (int good : GOOD_CELLS) {
            SpillSheet x = new SpillSheet();
            Check.due("cell " + good, x.number(good, 9), 0);
            Check.due("only it", x.total(Check.size(6, 6)), 9);
            Check.due("value of " + good, x.value(good), 9);
        }
    }

    private static void numberBounds() {
        Check.sentence("-2 if number is not in -1000 .. 1000");
        SpillSheet x = new SpillSheet();
        for (int good : new int[] {-1000, -999, -1, 0, 1, 999, 1000}) {
            Check.due("number " + good, x.number(20, good), 0);
            Check.due("value of " + good, x.value(20), good);
        }
        for (int bad : new int[] {Integer.MIN_VALUE, -1002, -1001, 1001, 1002, Integer.MAX_VALUE}) {
            Check.due("number " + bad, x.number(20, bad), -2);
            Check.due("value after " + bad, x.value(20), 1000);
            Check.due("in an empty cell", x.number(21, bad), -2);
        }
        Check.due("the empty cell", x.kind(21), 0);
    }

    private static void pairCell() {
        Check.sentence("pair: -1 if cell is not good");
        for (int bad : Check.BAD_CELLS) {
            Check.due("cell " + bad, new SpillSheet().pair(bad, 0, 0, 0), -1);
        }
        for (int good : GOOD_CELLS) {
            SpillSheet x = new SpillSheet();
            Check.due("cell " + good, x.pair(good, 0, 20, 21), 0);
            Check.due("kind of " + good, x.kind(good), 2);
            Check.due("only it", x.readers(20), Check.set(good));
        }
    }

    private static void pairOperationBounds() {
        Check.sentence("-2 if operation is not in 0 .. 4");
        SpillSheet x = new SpillSheet();
        x.number(0, -6);
        x.number(1, 4);
        int[] wants = {-2, -10, -24, -6, 4};
        for (int operation = 0; operation < 5; operation++) {
            Check.due("operation " + operation, x.pair(2, operation, 0, 1), 0);
            Check.due("value by " + operation, x.value(2), wants[operation]);
        }
        for (int bad : new int[] {Integer.MIN_VALUE, -2, -1, 5, 6, Integer.MAX_VALUE}) {
            Check.due("operation " + bad, x.pair(2, bad, 1, 0), -2);
            Check.due("value after " + bad, x.value(2), 4);
            Check.due("in an empty cell", x.pair(3, bad, 1, 0), -2);
        }
        Check.due("the empty cell", x.kind(3), 0);
    }

    private static void pairNamedBounds() {
        Check.sentence("-3 if a or b is not good");
        SpillSheet x = new SpillSheet();
        for (int good : GOOD_CELLS) {
            Check.due("a " + good, x.pair(20, 0, good, 21), 0);
            Check.due("sources with a", x.sources(20), Check.set(good, 21));
            Check.due("b " + good, x.pair(20, 4, 21, good), 0);
            Check.due("sources with b", x.sources(20), Check.set(good, 21));
        }
        for (int bad : Check.BAD_CELLS) {
            Check.due("a " + bad, x.pair(20, 0, bad, 0), -3);
            Check.due("b " + bad, x.pair(20, 0, 0, bad), -3);
            Check.due("a and b " + bad, x.pair(20, 0, bad, bad), -3);
        }
        Check.due("sources after all", x.sources(20), Check.set(35, 21));
    }

    private static void sumCell() {
        Check.sentence("sum: -1 if cell is not good");
        for (int bad : Check.BAD_CELLS) {
            Check.due("cell " + bad, new SpillSheet().sum(bad, 0), -1);
        }
        for (int good : GOOD_CELLS) {
            SpillSheet x = new SpillSheet();
            Check.due("cell " + good, x.sum(good, Check.rectangle(20, 21)), 2);
            Check.due("kind of " + good, x.kind(good), 3);
            Check.due("only it", x.readers(20), Check.set(good));
        }
    }

    private static void sumRectangleBounds() {
        Check.sentence("sum: -2 if rectangle is not good");
        SpillSheet x = new SpillSheet();
        x.sum(20, Check.rectangle(34, 35));
        for (int bad : Check.BAD_RECTANGLES) {
            Check.due("rectangle " + bad, x.sum(20, bad), -2);
        }
        Check.due("sources after all", x.sources(20), Check.set(34, 35));
    }

    private static void sumCountsNamed() {
        Check.sentence("otherwise answers how many named cells it has");
        for (int cell : new int[] {0, 14, 35}) {
            for (int rectangle : Check.rectangles()) {
                SpillSheet x = new SpillSheet();
                int count = Check.rows(rectangle) * Check.columns(rectangle);
                String call = "sum(" + cell + ", " + rectangle + ")";
                Check.due(call, x.sum(cell, rectangle), count);
                Check.due(call + ": sources", Long.bitCount(x.sources(cell)), count);
            }
        }
        SpillSheet x = new SpillSheet();
        Check.due("the smallest, first", x.sum(0, 0), 1);
        Check.due("its cell", x.sources(0), Check.set(0));
        Check.due("the smallest, last", x.sum(0, 1295), 1);
        Check.due("its cell", x.sources(0), Check.set(35));
        Check.due("the greatest", x.sum(0, 35), 36);
        Check.due("its cells", x.sources(0), Check.ALL_CELLS);
    }

    private static void choiceCell() {
        Check.sentence("choice: -1 if cell is not good");
        for (int bad : Check.BAD_CELLS) {
            Check.due("cell " + bad, new SpillSheet().choice(bad, 0, 0, 0), -1);
        }
        for (int good : GOOD_CELLS) {
            SpillSheet x = new SpillSheet();
            Check.due("cell " + good, x.choice(good, 20, 21, 22), 0);
            Check.due("kind of " + good, x.kind(good), 4);
            Check.due("only it", x.readers(20), Check.set(good));
        }
    }

    private static void choiceNamedBounds() {
        Check.sentence("-2 if a, b or c is not good");
        SpillSheet x = new SpillSheet();
        for (int good : GOOD_CELLS) {
            Check.due("a " + good, x.choice(20, good, 21, 22), 0);
            Check.due("sources with a", x.sources(20), Check.set(good, 21, 22));
            Check.due("b " + good, x.choice(20, 21, good, 22), 0);
            Check.due("sources with b", x.sources(20), Check.set(good, 21, 22));
            Check.due("c " + good, x.choice(20, 21, 22, good), 0);
            Check.due("sources with c", x.sources(20), Check.set(good, 21, 22));
        }
        for (int bad : Check.BAD_CELLS) {
            Check.due("a " + bad, x.choice(20, bad, 0, 0), -2);
            Check.due("b " + bad, x.choice(20, 0, bad, 0), -2);
            Check.due("c " + bad, x.choice(20, 0, 0, bad), -2);
            Check.due("all " + bad, x.choice(20, bad, bad, bad), -2);
        }
        Check.due("sources after all", x.sources(20), Check.set(35, 21, 22));
    }

    private static void spreadCell() {
        Check.sentence("spread: -1 if cell is not good");
        for (int bad : Check.BAD_CELLS) {
            Check.due("cell " + bad, new SpillSheet().spread(bad, 0), -1);
        }
        for (int good : GOOD_CELLS) {
            SpillSheet x = new SpillSheet();
            Check.due("cell " + good, x.spread(good, Check.rectangle(20, 20)), 1);
            Check.due("kind of " + good, x.kind(good), 5);
            Check.due("only it", x.readers(20), Check.set(good));
        }
    }

    private static void spreadRectangleBounds() {
        Check.sentence("spread: -2 if rectangle is not good");
        SpillSheet x = new SpillSheet();
        x.spread(20, Check.rectangle(34, 35));
        for (int bad : Check.BAD_RECTANGLES) {
            Check.due("rectangle " + bad, x.spread(20, bad), -2);
        }
        Check.due("shows after all", x.shows(21), 35);
    }

    private static void spreadOpenOrBlocked() {
        Check.sentence("otherwise 1 if it is open then, 0 if it is blocked");
        for (int cell = 0; cell < 36; cell++) {
            Check.due("the smallest, first, in " + cell, new SpillSheet().spread(cell, 0), 1);
            Check.due("the smallest, last, in " + cell, new SpillSheet().spread(cell, 1295), 1);
            Check.due("the greatest in " + cell, new SpillSheet().spread(cell, 35), cell == 0 ? 1 : 0);
        }
        SpillSheet x = new SpillSheet();
        Check.due("open", x.spread(13, Check.size(1, 2)), 1);
        Check.due("open, in a cell of that one's area", x.spread(14, Check.size(1, 2)), 1);
        Check.due("it blocks that one", x.owner(13), -2);
        Check.due("open, a column over the second cell", x.spread(9, Check.size(2, 1)), 1);
        Check.due("the row gives way", x.owner(14), -2);
        Check.due("the row again", x.spread(14, Check.size(1, 2)), 0);
        Check.due("a shorter row", x.spread(14, Check.size(1, 1)), 1);
        x.number(35, 1);
        Check.due("the greatest in 0 with one cell filled", x.spread(0, 35), 0);
    }

    private static void eraseCell() {
        Check.sentence("erase: -1 if cell is not good");
        for (int bad : Check.BAD_CELLS) {
            Check.due("cell " + bad, new SpillSheet().erase(bad), -1);
        }
        for (int good : GOOD_CELLS) {
            SpillSheet x = new SpillSheet();
            for (int cell = 0; cell < 36; cell++) {
                x.number(cell, 1);
            }
            Check.due("cell " + good, x.erase(good), 1);
            Check.due("only it", x.inState(0), 1);
            Check.due("kind of " + good, x.kind(good), 0);
        }
    }

    private static void eraseEmptyOrFilled() {
        Check.sentence("otherwise 1 if it was not empty, else 0");
        for (int cell : GOOD_CELLS) {
            for (int kind = 0; kind < 7; kind++) {
                SpillSheet x = new SpillSheet();
                Check.put(x, cell, kind);
                Check.due("erase kind " + kind, x.erase(cell), kind == 0 ? 0 : 1);
                Check.due("kind after " + kind, x.kind(cell), 0);
                Check.due("state after " + kind, x.state(cell), 0);
                Check.due("erase again after " + kind, x.erase(cell), 0);
            }
        }
        SpillSheet x = new SpillSheet();
        x.spread(0, Check.size(2, 2));
        Check.due("erase an empty cell that shows one", x.erase(7), 0);
        Check.due("it shows it still", x.shows(7), 7);
        Check.due("erase the open spread", x.erase(0), 1);
        Check.due("the cell shows none", x.shows(7), -2);
        x.spread(7, Check.size(6, 6));
        Check.due("erase a blocked spread", x.erase(7), 1);
    }

    private static void copyCells() {
        Check.sentence("-1 if from or to is not good");
        SpillSheet x = new SpillSheet();
        x.number(0, 3);
        x.number(35, 4);
        for (int bad : Check.BAD_CELLS) {
            Check.due("from " + bad, x.copy(bad, 0), -1);
            Check.due("to " + bad, x.copy(35, bad), -1);
            Check.due("both " + bad, x.copy(bad, bad), -1);
        }
        Check.due("total after all", x.total(Check.size(6, 6)), 7);
        Check.due("from the last cell to the first", x.copy(35, 0), 0);
        Check.due("value of the first", x.value(0), 4);
        x.number(0, 5);
        Check.due("from the first cell to the last", x.copy(0, 35), 0);
        Check.due("value of the last", x.value(35), 5);
    }

    private static void copyOfNoFormula() {
        Check.sentence("The content of a cell is copied to another cell");
        for (int from = 0; from < 36; from++) {
            for (int to = 0; to < 36; to++) {
                for (int kind : new int[] {0, 1, 6}) {
                    SpillSheet x = new SpillSheet();
                    x.number(to, 9);
                    Check.put(x, from, kind);
                    String call = "copy(" + from + ", " + to + ") of kind " + kind;
                    Check.due(call, x.copy(from, to), kind == 6 ? 1 : 0);
                    Check.due(call + ": kind", x.kind(to), kind);
                    Check.due(call + ": original", x.kind(from), kind);
                    Check.due(call + ": value", x.value(to), 0);
                }
            }
        }
        SpillSheet x = new SpillSheet();
        for (int number : new int[] {-1000, -1, 1, 1000}) {
            x.number(0, number);
            Check.due("copy of " + number, x.copy(0, 35), 0);
            Check.due("value of the copy", x.value(35), number);
        }
        x.spread(12, Check.rectangle(0, 1));
        Check.due("copy of an empty cell that shows one", x.copy(13, 35), 0);
        Check.due("the copy is empty", x.kind(35), 0);
    }

    /** Does something with a sheet for every move there is. */
    private interface Move {
        void make(int from, int to, int rows, int columns);
    }

    private static void everyMove(Move move) {
        for (int rows = -5; rows <= 5; rows++) {
            for (int columns = -5; columns <= 5; columns++) {
                int from = Check.cell(rows < 0 ? 5 : 0, columns < 0 ? 5 : 0);
                move.make(from, from + 6 * rows + columns, rows, columns);
            }
        }
    }

    private static boolean stays(int cell, int rows, int columns) {
        return Check.inSheet(cell / 6 + rows, cell % 6 + columns);
    }

    private static void copyOfPair() {
        Check.sentence("in a formula every cell that is named by it");
        everyMove((from, to, rows, columns) -> {
            for (int named = 0; named < 36; named++) {
                SpillSheet x = new SpillSheet();
                x.pair(from, 1, named, from);
                copied(x, from, to, 2, Check.set(named, from));
                x.pair(from, 1, from, named);
                copied(x, from, to, 2, Check.set(named, from));
            }
        });
        SpillSheet x = new SpillSheet();
        x.number(10, 9);
        x.number(11, 5);
        int[] wants = {14, 4, 45, 5, 9};
        for (int operation = 0; operation < 5; operation++) {
            x.pair(34, (operation + 1) % 5, 10, 11);
            x.pair(28, operation, 4, 5);
            Check.due("operation " + operation, x.copy(28, 34), 0);
            Check.due("value by operation " + operation, x.value(34), wants[operation]);
        }
    }

    private static void copyOfChoice() {
        Check.sentence("in a formula every cell that is named by it");
        everyMove((from, to, rows, columns) -> {
            for (int named = 0; named < 36; named++) {
                SpillSheet x = new SpillSheet();
                x.choice(from, named, from, from);
                copied(x, from, to, 4, Check.set(named, from));
                x.choice(from, from, named, from);
                copied(x, from, to, 4, Check.set(named, from));
                x.choice(from, from, from, named);
                copied(x, from, to, 4, Check.set(named, from));
            }
        });
        SpillSheet x = new SpillSheet();
        x.number(1, 1);
        x.number(2, 7);
        x.number(3, 8);
        x.choice(30, 0, 1, 2);
        Check.due("a, b and c keep their places", x.copy(30, 31), 0);
        Check.due("b is chosen", x.value(31), 7);
        x.number(1, 0);
        Check.due("c is chosen", x.value(31), 8);
    }

    private static void copyOfSum() {
        Check.sentence("for a rectangle, its two corners");
        everyMove((from, to, rows, columns) -> {
            for (int rectangle : Check.rectangles()) {
                SpillSheet x = new SpillSheet();
                x.sum(from, rectangle);
                copied(x, from, to, 3, cellsOf(rectangle));
            }
        });
    }

    private static long cellsOf(int rectangle) {
        long set = 0L;
        for (int row = 0; row < Check.rows(rectangle); row++) {
            for (int column = 0; column < Check.columns(rectangle); column++) {
                set |= Check.set(rectangle / 36 + 6 * row + column);
            }
        }
        return set;
    }

    // The original is erased before the copy is looked at, so that nothing else has sources.
    private static void copied(SpillSheet x, int from, int to, int kind, long named) {
        int rows = to / 6 - from / 6;
        int columns = to % 6 - from % 6;
        long moved = 0L;
        boolean broken = false;
        for (int cell = 0; cell < 36; cell++) {
            if ((named >>> cell & 1) != 0) {
                broken |= !stays(cell, rows, columns);
                moved |= broken ? 0L : Check.set(cell + 6 * rows + columns);
            }
        }
        String call = "copy(" + from + ", " + to + ") of kind " + kind + " with " + Long.toBinaryString(named);
        Check.due(call, x.copy(from, to), broken ? 1 : 0);
        Check.due(call + ": original", x.kind(from), kind);
        if (from != to) {
            x.erase(from);
        }
        Check.due(call + ": kind", x.kind(to), broken ? 6 : kind);
        Check.due(call + ": sources", x.sources(to), broken ? 0L : moved);
        x.erase(to);
    }

    private static void copyOfSpread() {
        Check.sentence("for a rectangle, its two corners");
        everyMove((from, to, rows, columns) -> {
            for (int rectangle : Check.rectangles()) {
                SpillSheet x = new SpillSheet();
                x.spread(from, rectangle);
                int first = rectangle / 36;
                int last = rectangle % 36;
                boolean broken = !stays(first, rows, columns) || !stays(last, rows, columns);
                String call = "copy(" + from + ", " + to + ") of spread " + rectangle;
                Check.due(call, x.copy(from, to), broken ? 1 : 0);
                Check.due(call + ": kind", x.kind(to), broken ? 6 : 5);
                if (from != to) {
                    x.erase(from);
                }
                int end = to + last - first;
                boolean open = !broken && stays(to, Check.rows(rectangle) - 1, Check.columns(rectangle) - 1);
                Check.due(call + ": shows", x.shows(to), open ? first + to - from : -2);
                if (open) {
                    Check.due(call + ": shows at the end", x.shows(end), last + to - from);
                    Check.due(call + ": owner at the end", x.owner(end), to);
                }
            }
        });
    }

    private static void copyToEachSide() {
        Check.sentence("if one would leave the sheet, the copy is broken instead");
        int from = Check.cell(2, 3);
        // The step to the next cell on each side, and how many there are to the sheet's edge. The
        // formula names the next cell, so that this one is the first to leave.
        int[][] sides = {{-6, 2}, {6, 3}, {-1, 3}, {1, 2}};
        for (int[] side : sides) {
            int near = from + side[0];
            for (int steps = 1; steps <= side[1]; steps++) {
                int to = from + steps * side[0];
                boolean broken = steps == side[1];
                for (int place = 0; place < 7; place++) {
                    SpillSheet x = new SpillSheet();
                    writeNaming(x, from, near, place);
                    int kind = x.kind(from);
                    String call = "formula " + place + " from " + from + " to " + to;
                    Check.due(call, x.copy(from, to), broken ? 1 : 0);
                    Check.due(call + ": kind", x.kind(to), broken ? 6 : kind);
                    Check.due(call + ": original", x.kind(from), kind);
                    if (broken) {
                        Check.due(call + ": state", x.state(to), 3);
                    }
                }
                for (int kind : new int[] {0, 1, 6}) {
                    SpillSheet x = new SpillSheet();
                    Check.put(x, from, kind);
                    Check.due("kind " + kind + " to " + to, x.copy(from, to), kind == 6 ? 1 : 0);
                    Check.due("kind " + kind + " to " + to + ": kind", x.kind(to), kind);
                }
            }
        }
    }

    private static void writeNaming(SpillSheet x, int cell, int named, int place) {
        int rectangle = Check.rectangle(Math.min(cell, named), Math.max(cell, named));
        switch (place) {
            case 0 -> x.pair(cell, 0, named, cell);
            case 1 -> x.pair(cell, 0, cell, named);
            case 2 -> x.choice(cell, named, cell, cell);
            case 3 -> x.choice(cell, cell, named, cell);
            case 4 -> x.choice(cell, cell, cell, named);
            case 5 -> x.sum(cell, rectangle);
            default -> x.spread(cell, rectangle);
        }
    }

    private static void copyBrokenOrElse() {
        Check.sentence("otherwise 1 if the copy is broken, else 0");
        SpillSheet x = new SpillSheet();
        Check.put(x, 14, 6);
        Check.due("a broken one, one cell on", x.copy(14, 15), 1);
        Check.due("the broken copy again", x.copy(15, 0), 1);
        Check.due("an empty one over a broken one", x.copy(20, 15), 0);
        Check.due("a broken one's copy is empty now", x.kind(15), 0);
        x.sum(21, Check.size(6, 6));
        Check.due("a sum of all, one down", x.copy(21, 27), 1);
        Check.due("a sum of all, one up", x.copy(21, 15), 1);
        Check.due("a sum of all, one left", x.copy(21, 20), 1);
        Check.due("a sum of all, one right", x.copy(21, 22), 1);
        SpillSheet y = new SpillSheet();
        y.spread(4, Check.size(1, 2));
        Check.due("a spread whose rectangle stays, whose area leaves", y.copy(4, 5), 0);
        Check.due("it is not broken", y.kind(5), 5);
        Check.due("it is blocked", y.state(5), 3);
        Check.due("a blocked spread to where it is open", y.copy(5, 10), 0);
        Check.due("it is open there", y.shows(11), 7);
        SpillSheet z = new SpillSheet();
        z.spread(20, Check.rectangle(34, 35));
        Check.due("a spread whose area stays, whose rectangle leaves", z.copy(20, 21), 1);
        Check.due("it is broken", z.kind(21), 6);
        Check.due("a broken copy in an area blocks it", z.owner(20), -2);
    }

    private static void copyOntoItself() {
        Check.sentence("as many rows and columns as the copy is away from the original");
        String untouched = Check.picture(Check.mixedSheet());
        for (int cell = 0; cell < 36; cell++) {
            SpillSheet x = Check.mixedSheet();
            int kind = x.kind(cell);
            Check.due("copy(" + cell + ", " + cell + ")", x.copy(cell, cell), kind == 6 ? 1 : 0);
            Check.due("nothing changed", Check.picture(x).equals(untouched) ? 1 : 0, 1);
            for (int content = 0; content < 7; content++) {
                copyContentOntoItself(cell, content);
            }
        }
        copyFarFormulasOntoThemselves();
    }

    private static void copyContentOntoItself(int cell, int content) {
        SpillSheet once = new SpillSheet();
        Check.put(once, cell, content);
        SpillSheet x = new SpillSheet();
        Check.put(x, cell, content);
        String call = "copy(" + cell + ", " + cell + ") of kind " + content;
        Check.due(call, x.copy(cell, cell), content == 6 ? 1 : 0);
        Check.due(call + " again", x.copy(cell, cell), content == 6 ? 1 : 0);
        Check.due(call + ": kind", x.kind(cell), content);
        Check.due(call + ": same", Check.picture(x).equals(Check.picture(once)) ? 1 : 0, 1);
    }

    /** Formulas that any move at all would break: each names the first and the last cell. */
    private static void copyFarFormulasOntoThemselves() {
        SpillSheet x = new SpillSheet();
        x.number(0, 3);
        x.number(35, 5);
        x.number(34, 7);
        x.pair(1, 1, 0, 35);
        x.choice(2, 0, 35, 34);
        x.choice(3, 1, 35, 0);
        x.sum(8, Check.size(6, 6));
        x.spread(9, Check.size(6, 6));
        for (int cell : new int[] {1, 2, 3, 8, 9}) {
            int kind = x.kind(cell);
            Check.due("a far formula, cell " + cell, x.copy(cell, cell), 0);
            Check.due("its kind, cell " + cell, x.kind(cell), kind);
        }
        Check.due("value of the pair", x.value(1), -2);
        Check.due("value of the choice", x.value(2), 5);
        Check.due("value of the other choice", x.value(3), 3);
        Check.due("sources of the choice", x.sources(2), Check.set(0, 34, 35));
        Check.due("sources of the sum", x.sources(8), Check.ALL_CELLS);
        Check.due("state of the blocked spread", x.state(9), 3);
        SpillSheet y = new SpillSheet();
        y.spread(0, Check.size(6, 6));
        Check.due("an open spread over all", y.copy(0, 0), 0);
        Check.due("it is open still", y.owner(35), 0);
        Check.due("an empty cell that shows one", y.copy(35, 35), 0);
        Check.due("it shows it still", y.shows(35), 35);
    }

    private static void copyThereAndBack() {
        Check.sentence("The content of a cell is copied");
        SpillSheet x = new SpillSheet();
        x.pair(0, 1, 0, 7);
        Check.due("to where it just stays", x.copy(0, 28), 0);
        Check.due("the last cells it can name", x.sources(28), Check.set(28, 35));
        x.erase(0);
        Check.due("and back", x.copy(28, 0), 0);
        Check.due("the cells it named", x.sources(0), Check.set(0, 7));
        Check.due("one too far", x.copy(28, 29), 1);
        Check.due("a broken one does not heal", x.copy(29, 28), 1);
        Check.due("its named cells are gone", x.sources(28), 0L);
    }
}

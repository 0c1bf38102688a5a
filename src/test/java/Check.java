/** Counts the answers of one test that are not the ones that are due. */
final class Check {
    static final int[] BAD_CELLS = {-1, 36, -36, 1000, Integer.MIN_VALUE, Integer.MAX_VALUE};

    // Outside 0 .. 1295; then columns or rows or both the wrong way round.
    static final int[] BAD_RECTANGLES = {
        Integer.MIN_VALUE, -1296, -36, -1, 1296, 1297, 1331, Integer.MAX_VALUE,
        rectangle(1, 0), rectangle(5, 34), rectangle(1, 6), rectangle(35, 34),
        rectangle(6, 0), rectangle(6, 5), rectangle(35, 29), rectangle(7, 0), rectangle(35, 0),
    };

    static final long ALL_CELLS = (1L << 36) - 1;

    private static int wrong = 0;
    private static int checked = 0;
    private static String sentence = "";

    private Check() {
    }

    /** Names the document's words that the next answers are due by. */
    static void sentence(String words) {
        sentence = "'" + words + "': ";
    }

    static void due(String call, long got, long want) {
        checked++;
        if (got != want) {
            wrong++;
            System.out.println(sentence + call + " answered " + got + ", due is " + want);
        }
    }

    static void finish() {
        System.out.println(checked + " answers checked, " + wrong + " not as due");
        if (wrong != 0 || checked == 0) {
            System.exit(1);
        }
    }

    static int cell(int row, int column) {
        return 6 * row + column;
    }

    static int rectangle(int upperLeft, int lowerRight) {
        return 36 * upperLeft + lowerRight;
    }

    /** The rectangle of so many rows and columns in the upper left corner of the sheet. */
    static int size(int rows, int columns) {
        return rectangle(0, cell(rows - 1, columns - 1));
    }

    static boolean inSheet(int row, int column) {
        return row >= 0 && row <= 5 && column >= 0 && column <= 5;
    }

    /** All rectangles there are. */
    static int[] rectangles() {
        int[] all = new int[21 * 21];
        int count = 0;
        for (int row = 0; row < 6; row++) {
            for (int column = 0; column < 6; column++) {
                for (int lastRow = row; lastRow < 6; lastRow++) {
                    for (int lastColumn = column; lastColumn < 6; lastColumn++) {
                        all[count] = rectangle(cell(row, column), cell(lastRow, lastColumn));
                        count++;
                    }
                }
            }
        }
        return all;
    }

    static int rows(int rectangle) {
        return rectangle % 36 / 6 - rectangle / 36 / 6 + 1;
    }

    static int columns(int rectangle) {
        return rectangle % 6 - rectangle / 36 % 6 + 1;
    }

    static long set(int... cells) {
        long set = 0L;
        for (int cell : cells) {
            set |= 1L << cell;
        }
        return set;
    }

    /** A sheet with cells of every state. */
    static SpillSheet mixedSheet() {
        SpillSheet x = new SpillSheet();
        x.number(0, 5);
        x.pair(1, 2, 0, 0);
        x.spread(12, Check.rectangle(0, 7));
        x.sum(35, Check.rectangle(0, 1));
        x.spread(34, 35);
        x.pair(11, 0, 0, 11);
        x.copy(11, 5);
        return x;
    }

    /** Puts a content of a kind into a cell; for a broken one cell 0 or 35 is used, and left empty. */
    static void put(SpillSheet x, int cell, int content) {
        switch (content) {
            case 0 -> x.erase(cell);
            case 1 -> x.number(cell, 0);
            case 2 -> x.pair(cell, 0, 0, 0);
            case 3 -> x.sum(cell, 0);
            case 4 -> x.choice(cell, 0, 0, 0);
            case 5 -> x.spread(cell, 0);
            default -> putBroken(x, cell);
        }
    }

    // From one corner to anywhere else, a formula that names the opposite corner breaks.
    private static void putBroken(SpillSheet x, int cell) {
        int helper = cell == 35 ? 0 : 35;
        x.pair(helper, 0, 35 - helper, 35 - helper);
        x.copy(helper, cell);
        x.erase(helper);
    }

    /** A sheet with the ends of the ints: 1 in cell 30, then least, greatest, -1 and 0. */
    static SpillSheet farSheet() {
        SpillSheet x = new SpillSheet();
        x.number(24, 512);
        x.pair(25, 2, 24, 24);
        x.pair(26, 2, 24, 25);
        x.number(27, 16);
        x.number(30, 1);
        x.pair(31, 2, 26, 27);
        x.pair(32, 1, 31, 30);
        x.number(33, -1);
        x.number(34, 0);
        return x;
    }

    /** All answers of a sheet's questions, to see that a call changed nothing. */
    static String picture(SpillSheet x) {
        StringBuilder text = new StringBuilder();
        for (int cell = 0; cell < 36; cell++) {
            text.append(x.kind(cell)).append(' ').append(x.state(cell)).append(' ');
            text.append(x.value(cell)).append(' ').append(x.shows(cell)).append(' ');
            text.append(x.owner(cell)).append(' ').append(x.sources(cell)).append(' ');
            text.append(x.readers(cell)).append(' ').append(x.depth(cell)).append('\n');
        }
        for (int state = 0; state < 4; state++) {
            text.append(x.inState(state)).append(' ');
        }
        text.append(x.total(size(6, 6)));
        return text.toString();
    }
}

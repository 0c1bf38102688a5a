/** Counts the answers of one test that are not the ones that are due. */
final class Check {
    static final int[] BAD_CELLS = {-1, 36, -36, 1000, Integer.MIN_VALUE, Integer.MAX_VALUE};

    private static int wrong = 0;
    private static int checked = 0;

    private Check() {
    }

    static void due(String call, long got, long want) {
        checked++;
        if (got != want) {
            wrong++;
            System.out.println(call + " answered " + got + ", due is " + want);
        }
    }

    static void finish() {
        System.out.println(checked + " answers checked, " + wrong + " not as due");
        if (wrong != 0 || checked == 0) {
            System.exit(1);
        }
    }

    static int cell(int row, int column) {
        return 6 * row + column;
    }

    static int rectangle(int upperLeft, int lowerRight) {
        return 36 * upperLeft + lowerRight;
    }

    static long set(int... cells) {
        long set = 0L;
        for (int cell : cells) {
            set |= 1L << cell;
        }
        return set;
    }

    /** A sheet with cells of every state. */
    static SpillSheet mixedSheet() {
        SpillSheet x = new SpillSheet();
        x.number(0, 5);
        x.pair(1, 2, 0, 0);
        x.spread(12, Check.rectangle(0, 7));
        x.sum(35, Check.rectangle(0, 1));
        x.spread(34, 35);
        x.pair(11, 0, 0, 11);
        x.copy(11, 5);
        return x;
    }

    /** All answers of a sheet's questions, to see that a call changed nothing. */
    static String picture(SpillSheet x) {
        StringBuilder text = new StringBuilder();
        for (int cell = 0; cell < 36; cell++) {
            text.append(x.kind(cell)).append(' ').append(x.state(cell)).append(' ');
            text.append(x.value(cell)).append(' ').append(x.shows(cell)).append(' ');
            text.append(x.owner(cell)).append(' ').append(x.sources(cell)).append(' ');
            text.append(x.readers(cell)).append(' ').append(x.depth(cell)).append('\n');
        }
        return text.toString();
    }
}

/** Runs of calls on a sheet and on the model; every answer must be the same. */
public final class ModelTest {
    private static final int RUNS = 400;

    // A plain row of numbers from a fixed start, so that every run of this test is the same.
    private long seed;
    private final int width;
    private final SpillSheet sheet = new SpillSheet();
    private final Model model = new Model();
    private final String name;
    private static final int[] reached = new int[7 + 4];

    private ModelTest(int run) {
        seed = 1000003L * run + 17;
        name = "run " + run + ": ";
        width = 1 + run % 6;
    }

    public static void main(String[] args) {
        for (int run = 0; run < RUNS; run++) {
            ModelTest test = new ModelTest(run);
            // 1 to 130 changes and 340 questions stay below the 512 calls of an object.
            int changes = 1 + run * 7 % 130;
            for (int change = 0; change < changes; change++) {
                test.change();
            }
            test.askAll();
        }
        for (int place = 0; place < reached.length; place++) {
            Check.due("runs reach kind or state at " + place, reached[place] > 50 ? 1 : 0, 1);
        }
        Check.finish();
    }

    private int below(int bound) {
        seed = seed * 6364136223846793005L + 1442695040888963407L;
        return (int) ((seed >>> 33) % bound);
    }

    private int cell() {
        return below(60) == 0 ? below(100) - 32 : below(36);
    }

    private int rectangle() {
        if (below(30) == 0) {
            return below(1400) - 50;
        }
        int row = below(6);
        int column = below(6);
        int lastRow = Math.min(5, row + below(width));
        int lastColumn = Math.min(5, column + below(width));
        return Check.rectangle(Check.cell(row, column), Check.cell(lastRow, lastColumn));
    }

    private void change() {
        int cell = cell();
        switch (below(12)) {
            case 0, 1 -> {
                int number = below(20) == 0 ? below(2400) - 1200 : below(2001) - 1000;
                Check.due(name + "number", sheet.number(cell, number), model.number(cell, number));
            }
            case 2, 3 -> {
                int operation = below(40) == 0 ? below(9) - 2 : below(5);
                int a = cell();
                int b = cell();
                Check.due(name + "pair", sheet.pair(cell, operation, a, b), model.pair(cell, operation, a, b));
            }
            case 4 -> {
                int rectangle = rectangle();
                Check.due(name + "sum", sheet.sum(cell, rectangle), model.sum(cell, rectangle));
            }
            case 5 -> {
                int a = cell();
                int b = cell();
                int c = cell();
                Check.due(name + "choice", sheet.choice(cell, a, b, c), model.choice(cell, a, b, c));
            }
            case 6, 7 -> {
                int rectangle = rectangle();
                Check.due(name + "spread", sheet.spread(cell, rectangle), model.spread(cell, rectangle));
            }
            case 8, 9, 10 -> Check.due(name + "erase", sheet.erase(cell), model.erase(cell));
            default -> {
                int to = cell();
                Check.due(name + "copy", sheet.copy(cell, to), model.copy(cell, to));
            }
        }
    }

    private void askAll() {
        for (int cell = 0; cell < 36; cell++) {
            reached[model.kind(cell)]++;
            reached[7 + model.state(cell)]++;
            Check.due(name + "kind " + cell, sheet.kind(cell), model.kind(cell));
            Check.due(name + "state " + cell, sheet.state(cell), model.state(cell));
            Check.due(name + "value " + cell, sheet.value(cell), model.value(cell));
            Check.due(name + "shows " + cell, sheet.shows(cell), model.shows(cell));
            Check.due(name + "owner " + cell, sheet.owner(cell), model.owner(cell));
            Check.due(name + "sources " + cell, sheet.sources(cell), model.sources(cell));
            Check.due(name + "readers " + cell, sheet.readers(cell), model.readers(cell));
            Check.due(name + "depth " + cell, sheet.depth(cell), model.depth(cell));
        }
        for (int state = -1; state < 5; state++) {
            Check.due(name + "inState " + state, sheet.inState(state), model.inState(state));
        }
        for (int time = 0; time < 40; time++) {
            int rectangle = rectangle();
            Check.due(name + "total " + rectangle, sheet.total(rectangle), model.total(rectangle));
        }
    }
}

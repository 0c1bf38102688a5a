import java.util.ArrayList;
import java.util.HashSet;
import java.util.List;
import java.util.Set;
import java.util.TreeSet;

/** The document once more, in another way: every question is worked out from the contents alone. */
final class Model {
    private record Place(int row, int column) {
        static Place of(int cell) {
            return new Place(cell / 6, cell % 6);
        }

        Place plus(int rows, int columns) {
            return new Place(row + rows, column + columns);
        }

        boolean inSheet() {
            return row >= 0 && row < 6 && column >= 0 && column < 6;
        }

        int cell() {
            return 6 * row + column;
        }
    }

    /** The places are the named cells of a pair or choice, the corners for a sum or spread. */
    private record Content(int kind, int extra, List<Place> places) {
        int height() {
            return places.get(1).row() - places.get(0).row() + 1;
        }

        int width() {
            return places.get(1).column() - places.get(0).column() + 1;
        }

        /** All cells of an area as big as the rectangle, in order. */
        List<Place> areaFrom(Place start) {
            List<Place> area = new ArrayList<>();
            for (int row = 0; row < height(); row++) {
                for (int column = 0; column < width(); column++) {
                    area.add(start.plus(row, column));
                }
            }
            return area;
        }
    }

    private static final Content EMPTY = new Content(0, 0, List.of());
    private static final Content BROKEN = new Content(6, 0, List.of());

    private final Content[] contents = new Content[36];
    private final Integer[] values = new Integer[36];
    private final Integer[] depths = new Integer[36];

    Model() {
        for (int cell = 0; cell < 36; cell++) {
            contents[cell] = EMPTY;
        }
    }

    private static boolean good(int... cells) {
        for (int cell : cells) {
            if (cell < 0 || cell > 35) {
                return false;
            }
        }
        return true;
    }

    private static boolean goodRectangle(int rectangle) {
        for (int first = 0; first < 36; first++) {
            for (int last = 0; last < 36; last++) {
                Place upperLeft = Place.of(first);
                Place lowerRight = Place.of(last);
                if (rectangle == 36 * first + last) {
                    return upperLeft.row() <= lowerRight.row() && upperLeft.column() <= lowerRight.column();
                }
            }
        }
        return false;
    }

    private static List<Place> corners(int rectangle) {
        return List.of(Place.of(rectangle / 36), Place.of(rectangle % 36));
    }

    private void put(int cell, Content content) {
        contents[cell] = content;
        for (int other = 0; other < 36; other++) {
            values[other] = null;
            depths[other] = null;
        }
    }

    int number(int cell, int number) {
        if (!good(cell)) {
            return -1;
        }
        if (Math.abs((long) number) > 1000) {
            return -2;
        }
        put(cell, new Content(1, number, List.of()));
        return 0;
    }

    int pair(int cell, int operation, int a, int b) {
        if (!good(cell)) {
            return -1;
        }
        if (operation < 0 || operation > 4) {
            return -2;
        }
        if (!good(a, b)) {
            return -3;
        }
        put(cell, new Content(2, operation, List.of(Place.of(a), Place.of(b))));
        return 0;
    }

    int sum(int cell, int rectangle) {
        if (!good(cell)) {
            return -1;
        }
        if (!goodRectangle(rectangle)) {
            return -2;
        }
        put(cell, new Content(3, 0, corners(rectangle)));
        return direct(cell).size();
    }

    int choice(int cell, int a, int b, int c) {
        if (!good(cell)) {
            return -1;
        }
        if (!good(a, b, c)) {
            return -2;
        }
        put(cell, new Content(4, 0, List.of(Place.of(a), Place.of(b), Place.of(c))));
        return 0;
    }

    int spread(int cell, int rectangle) {
        if (!good(cell)) {
            return -1;
        }
        if (!goodRectangle(rectangle)) {
            return -2;
        }
        put(cell, new Content(5, 0, corners(rectangle)));
        return openSpreads().contains(cell) ? 1 : 0;
    }

    int erase(int cell) {
        if (!good(cell)) {
            return -1;
        }
        int answer = contents[cell].equals(EMPTY) ? 0 : 1;
        put(cell, EMPTY);
        return answer;
    }

    int copy(int from, int to) {
        if (!good(from, to)) {
            return -1;
        }
        Place start = Place.of(from);
        Place end = Place.of(to);
        List<Place> moved = new ArrayList<>();
        boolean broken = contents[from].kind() == 6;
        for (Place place : contents[from].places()) {
            Place there = place.plus(end.row() - start.row(), end.column() - start.column());
            broken |= !there.inSheet();
            moved.add(there);
        }
        put(to, broken ? BROKEN : new Content(contents[from].kind(), contents[from].extra(), moved));
        return broken ? 1 : 0;
    }

    private Set<Integer> openSpreads() {
        Set<Integer> open = new TreeSet<>();
        Set<Place> taken = new HashSet<>();
        for (int cell = 0; cell < 36; cell++) {
            if (contents[cell].kind() == 5) {
                List<Place> area = contents[cell].areaFrom(Place.of(cell));
                int start = cell;
                boolean free = area.stream().allMatch(place -> place.inSheet() && !taken.contains(place)
                        && (place.cell() == start || contents[place.cell()].kind() == 0));
                if (free) {
                    open.add(cell);
                    taken.addAll(area);
                }
            }
        }
        return open;
    }

    int kind(int cell) {
        return good(cell) ? contents[cell].kind() : -1;
    }

    int shows(int cell) {
        int owner = owner(cell);
        if (owner < 0) {
            return owner;
        }
        int index = contents[owner].areaFrom(Place.of(owner)).indexOf(Place.of(cell));
        return contents[owner].areaFrom(contents[owner].places().get(0)).get(index).cell();
    }

    int owner(int cell) {
        if (!good(cell)) {
            return -1;
        }
        for (int start : openSpreads()) {
            if (contents[start].areaFrom(Place.of(start)).contains(Place.of(cell))) {
                return start;
            }
        }
        return -2;
    }

    private Set<Integer> direct(int cell) {
        Set<Integer> set = new TreeSet<>();
        int shown = shows(cell);
        Content content = contents[cell];
        if (shown >= 0) {
            set.add(shown);
        } else if (content.kind() == 3) {
            content.areaFrom(content.places().get(0)).forEach(place -> set.add(place.cell()));
        } else if (content.kind() != 5) {
            content.places().forEach(place -> set.add(place.cell()));
        }
        return set;
    }

    private Set<Integer> depends(int cell) {
        Set<Integer> set = new TreeSet<>();
        collect(cell, set);
        return set;
    }

    private void collect(int cell, Set<Integer> set) {
        for (int source : direct(cell)) {
            if (set.add(source)) {
                collect(source, set);
            }
        }
    }

    private boolean hasFailed(int cell) {
        int kind = contents[cell].kind();
        return kind == 6 || kind == 5 && !openSpreads().contains(cell);
    }

    int state(int cell) {
        if (!good(cell)) {
            return -1;
        }
        Set<Integer> sources = depends(cell);
        if (sources.contains(cell) || sources.stream().anyMatch(source -> depends(source).contains(source))) {
            return 2;
        }
        if (hasFailed(cell) || sources.stream().anyMatch(this::hasFailed)) {
            return 3;
        }
        return contents[cell].kind() == 0 && shows(cell) == -2 ? 0 : 1;
    }

    int value(int cell) {
        if (!good(cell)) {
            return 0;
        }
        if (values[cell] == null) {
            values[cell] = state(cell) == 1 ? workOut(cell) : 0;
        }
        return values[cell];
    }

    private int valueAt(Content content, int place) {
        return value(content.places().get(place).cell());
    }

    private int workOut(int cell) {
        Content content = contents[cell];
        if (shows(cell) >= 0) {
            return value(shows(cell));
        }
        if (content.kind() == 1) {
            return content.extra();
        }
        if (content.kind() == 3) {
            return direct(cell).stream().mapToInt(this::value).sum();
        }
        if (content.kind() == 4) {
            return valueAt(content, 0) > 0 ? valueAt(content, 1) : valueAt(content, 2);
        }
        int a = valueAt(content, 0);
        int b = valueAt(content, 1);
        return switch (content.extra()) {
            case 0 -> a + b;
            case 1 -> a - b;
            case 2 -> a * b;
            case 3 -> Math.min(a, b);
            default -> Math.max(a, b);
        };
    }

    private static long asLong(Set<Integer> cells) {
        return cells.stream().mapToLong(cell -> 1L << cell).sum();
    }

    long sources(int cell) {
        return good(cell) ? asLong(depends(cell)) : -1;
    }

    long readers(int cell) {
        if (!good(cell)) {
            return -1;
        }
        Set<Integer> set = new TreeSet<>();
        for (int reader = 0; reader < 36; reader++) {
            if (depends(reader).contains(cell)) {
                set.add(reader);
            }
        }
        return asLong(set);
    }

    int inState(int state) {
        if (state < 0 || state > 3) {
            return -1;
        }
        int count = 0;
        for (int cell = 0; cell < 36; cell++) {
            count += state(cell) == state ? 1 : 0;
        }
        return count;
    }

    int depth(int cell) {
        if (!good(cell)) {
            return -1;
        }
        return state(cell) == 2 ? -2 : longestFrom(cell);
    }

    private int longestFrom(int cell) {
        if (depths[cell] == null) {
            depths[cell] = 1 + direct(cell).stream().mapToInt(this::longestFrom).max().orElse(0);
        }
        return depths[cell];
    }

    int total(int rectangle) {
        if (!goodRectangle(rectangle)) {
            return 0;
        }
        Content content = new Content(3, 0, corners(rectangle));
        return content.areaFrom(content.places().get(0)).stream().mapToInt(place -> value(place.cell())).sum();
    }
}

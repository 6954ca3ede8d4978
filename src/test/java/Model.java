import java.util.ArrayList;
import java.util.Comparator;
import java.util.HashMap;
import java.util.LinkedHashMap;
import java.util.List;
import java.util.Map;
import java.util.NoSuchElementException;

/** The document once more, slow and plain: words are texts, places are records, walks and ways are written out. */
final class Model {

    record Place(int column, int row, String word) {
    }

    private record Pillar(int number, int column, int row) {
    }

    private static final int[] ACROSS = {0, 1, 0, -1};
    private static final int[] DOWNWARDS = {-1, 0, 1, 0};

    private final int columns;
    private final int rows;
    private final int limit;
    private final List<Pillar> pillars = new ArrayList<>();
    private Place base = new Place(0, 0, "");
    private Place place = base;
    private Map<Place, Integer> lengths;
    private int steps;

    Model(int columns, int rows, int limit) {
        this.columns = columns < 3 ? 3 : columns > 7 ? 7 : columns;
        this.rows = rows < 3 ? 3 : rows > 7 ? 7 : rows;
        this.limit = limit < 1 ? 1 : limit > 60 ? 60 : limit;
        this.lengths = allLengths();
    }

    int columns() {
        return columns;
    }

    int rows() {
        return rows;
    }

    int pillar(int column, int row) {
        requireSquare(column, row);
        boolean taken = isPillar(column, row) || column == base.column() && row == base.row();
        if (pillars.size() == 3 || taken || !place.equals(base)) {
            throw new IllegalStateException();
        }
        pillars.add(new Pillar(pillars.size(), column, row));
        lengths = allLengths();
        return pillars.size() - 1;
    }

    void base(int column, int row) {
        requireSquare(column, row);
        if (isPillar(column, row)) {
            throw new IllegalStateException();
        }
        base = new Place(column, row, "");
        place = base;
        steps = 0;
        lengths = allLengths();
    }

    int step(int direction) {
        if (direction < 0 || direction > 3) {
            throw new IllegalArgumentException();
        }
        Place next = after(place, direction);
        if (next == null || lengths.get(next) > limit) {
            throw new IllegalStateException();
        }
        place = next;
        steps++;
        return length();
    }

    /** All ways of as many steps at once, each written out as a text of directions; the least text wins. */
    int go(int column, int row) {
        requireSquare(column, row);
        Map<Place, String> seen = new HashMap<>();
        Map<Place, String> latest = new LinkedHashMap<>();
        latest.put(place, "");
        while (!latest.isEmpty()) {
            seen.putAll(latest);
            Place best = null;
            for (Map.Entry<Place, String> e : latest.entrySet()) {
                boolean there = e.getKey().column() == column && e.getKey().row() == row;
                if (there && (best == null || e.getValue().compareTo(latest.get(best)) < 0)) {
                    best = e.getKey();
                }
            }
            if (best != null) {
                place = best;
                steps += latest.get(best).length();
                return latest.get(best).length();
            }
            latest = aStepOn(latest, seen);
        }
        throw new NoSuchElementException();
    }

    private Map<Place, String> aStepOn(Map<Place, String> latest, Map<Place, String> seen) {
        Map<Place, String> further = new LinkedHashMap<>();
        for (Map.Entry<Place, String> e : latest.entrySet()) {
            for (int direction = 3; direction >= 0; direction--) {
                Place next = after(e.getKey(), direction);
                if (next != null && lengths.get(next) <= limit && !seen.containsKey(next)) {
                    further.merge(next, e.getValue() + direction, (a, b) -> a.compareTo(b) < 0 ? a : b);
                }
            }
        }
        return further;
    }

    int back(int most) {
        if (most < 1 || most > 60) {
            throw new IllegalArgumentException();
        }
        List<Place> cable = cable();
        int made = Math.min(most, cable.size() - 1);
        place = cable.get(made);
        steps += made;
        return made;
    }

    int column() {
        return place.column();
    }

    int row() {
        return place.row();
    }

    int letters() {
        return place.word().length();
    }

    int letterAt(int index) {
        if (index < 0 || index >= place.word().length()) {
            throw new IndexOutOfBoundsException();
        }
        return place.word().charAt(index) - '0';
    }

    int length() {
        return lengths.get(place);
    }

    /** The length of the place to which a step would lead, whatever the limit; -1 if it cannot be made in a walk. */
    int lengthBehind(int direction) {
        Place next = after(place, direction);
        return next == null ? -1 : lengths.get(next);
    }

    int slack() {
        return limit - length();
    }

    int steps() {
        return steps;
    }

    int lengthByTrying(int most) {
        if (most < 0 || most > 8) {
            throw new IllegalArgumentException();
        }
        return length() <= most ? length() : -1;
    }

    int cableAt(int index) {
        List<Place> cable = cable();
        if (index < 0 || index >= cable.size()) {
            throw new IndexOutOfBoundsException();
        }
        return 10 * cable.get(index).column() + cable.get(index).row();
    }

    int bends() {
        List<Place> cable = cable();
        int bends = 0;
        for (int i = 2; i < cable.size(); i++) {
            int across = cable.get(i).column() - cable.get(i - 1).column();
            int acrossBefore = cable.get(i - 1).column() - cable.get(i - 2).column();
            int down = cable.get(i).row() - cable.get(i - 1).row();
            int downBefore = cable.get(i - 1).row() - cable.get(i - 2).row();
            if (across != acrossBefore || down != downBefore) {
                bends++;
            }
        }
        return bends;
    }

    int least(int column, int row) {
        requireSquare(column, row);
        return lengths.entrySet().stream().filter(e -> e.getKey().column() == column && e.getKey().row() == row)
                .mapToInt(Map.Entry::getValue).min().orElse(-1);
    }

    int missing(int column, int row) {
        int least = least(column, row);
        return least < 0 ? -1 : Math.max(0, least - limit);
    }

    int words(int column, int row) {
        requireSquare(column, row);
        return (int) lengths.entrySet().stream().filter(e -> e.getKey().column() == column && e.getKey().row() == row)
                .filter(e -> e.getValue() <= limit).count();
    }

    /** Walks on from the crawler's place, not from the base. */
    int squares() {
        Map<Place, Boolean> seen = new HashMap<>();
        List<Place> open = new ArrayList<>(List.of(place));
        seen.put(place, true);
        while (!open.isEmpty()) {
            Place here = open.remove(open.size() - 1);
            for (int direction = 0; direction < 4; direction++) {
                Place next = after(here, direction);
                if (next != null && lengths.get(next) <= limit && seen.put(next, true) == null) {
                    open.add(next);
                }
            }
        }
        return (int) seen.keySet().stream().map(p -> 10 * p.column() + p.row()).distinct().count();
    }

    private List<Place> cable() {
        List<Place> cable = new ArrayList<>(List.of(place));
        Place here = place;
        while (lengths.get(here) > 0) {
            Place next = null;
            for (int direction = 3; direction >= 0; direction--) {
                Place tried = after(here, direction);
                if (tried != null && lengths.get(tried) == lengths.get(here) - 1) {
                    next = tried;
                }
            }
            cable.add(next);
            here = next;
        }
        return cable;
    }

    private Map<Place, Integer> allLengths() {
        Map<Place, Integer> found = new HashMap<>();
        List<Place> latest = List.of(base);
        for (int length = 0; !latest.isEmpty(); length++) {
            List<Place> further = new ArrayList<>();
            for (Place here : latest) {
                if (found.putIfAbsent(here, length) == null) {
                    for (int direction = 0; direction < 4; direction++) {
                        Place next = after(here, direction);
                        if (next != null && !found.containsKey(next)) {
                            further.add(next);
                        }
                    }
                }
            }
            latest = further;
        }
        return found;
    }

    private Place after(Place here, int direction) {
        int column = here.column() + ACROSS[direction];
        int row = here.row() + DOWNWARDS[direction];
        if (!has(column, row) || isPillar(column, row)) {
            return null;
        }
        String word = shortened(here.word() + lettersOfStep(here.column(), column, row));
        return word.length() > 3 ? null : new Place(column, row, word);
    }

    private String lettersOfStep(int from, int to, int row) {
        if (from == to) {
            return "";
        }
        List<Pillar> crossed = new ArrayList<>();
        for (Pillar pillar : pillars) {
            if (pillar.column() == Math.min(from, to) && pillar.row() > row) {
                crossed.add(pillar);
            }
        }
        Comparator<Pillar> upperFirst = Comparator.comparingInt(Pillar::row);
        crossed.sort(to > from ? upperFirst : upperFirst.reversed());
        StringBuilder letters = new StringBuilder();
        for (Pillar pillar : crossed) {
            letters.append(2 * pillar.number() + (to > from ? 0 : 1));
        }
        return letters.toString();
    }

    private static String shortened(String word) {
        String left = word;
        String before;
        do {
            before = left;
            left = left.replaceFirst("01|10|23|32|45|54", "");
        } while (!left.equals(before));
        return left;
    }

    private boolean has(int column, int row) {
        return column >= 0 && column < columns && row >= 0 && row < rows;
    }

    private boolean isPillar(int column, int row) {
        for (Pillar pillar : pillars) {
            if (pillar.column() == column && pillar.row() == row) {
                return true;
            }
        }
        return false;
    }

    private void requireSquare(int column, int row) {
        if (!has(column, row)) {
            throw new IndexOutOfBoundsException();
        }
    }
}

import java.util.Arrays;
import java.util.NoSuchElementException;

/**
 * A crawler on a cable among pillars: it winds its cable around them, the cable is always taut, and its length is
 * limited; how the cable is wound is told as a word, and ways, bends, slack and the length that is missing for a goal
 * are asked.
 */
public final class Tetherline {

    /** There is none. */
    public static final int NONE = -1;

    private static final int FEWEST_LINES = 3;
    private static final int MOST_LINES = 7;
    private static final int SQUARES = MOST_LINES * MOST_LINES;
    private static final int MOST_PILLARS = 3;

    private static final int DIRECTIONS = 4;
    private static final int UP = 0;
    private static final int RIGHT = 1;
    private static final int DOWN = 2;
    private static final int LEFT = 3;

    // A word is a number with one digit a letter, the last letter lowest: the letter plus 1, so that no digit is 0.
    private static final int DIGIT = 2 * MOST_PILLARS + 1;
    private static final int MOST_LETTERS = 3;
    private static final int WORDS = DIGIT * DIGIT * DIGIT;
    private static final int EMPTY_WORD = 0;

    // A place is a number too: its square times WORDS, and its word.
    private static final int PLACES = SQUARES * WORDS;
    // Words of up to 3 of 6 letters, no letter behind its opposite: 1 + 6 + 6 * 5 + 6 * 5 * 5.
    private static final int MOST_WORDS = 187;

    private static final int SHORTEST_LIMIT = 1;
    private static final int LONGEST_LIMIT = 60;
    private static final int MOST_BACK = 60;
    private static final int MOST_TRIED = 8;

    private final Floor floor;
    private final int limit;
    private final Spread lengths = new Spread();
    private final Spread ways = new Spread();
    private int base;
    private int place;
    private int stepsMade;

    public Tetherline(int columns, int rows, int limit) {
        this.floor = new Floor(between(FEWEST_LINES, columns, MOST_LINES), between(FEWEST_LINES, rows, MOST_LINES));
        this.limit = between(SHORTEST_LIMIT, limit, LONGEST_LIMIT);
        this.base = squareAt(0, 0);
        this.place = placeOf(base, EMPTY_WORD);
        measureLengths();
    }

    // ---- the floor

    public int pillar(int column, int row) throws IndexOutOfBoundsException, IllegalStateException {
        requireSquare(column, row);
        int square = squareAt(column, row);
        boolean crawlerAway = place != placeOf(base, EMPTY_WORD);
        if (crawlerAway || square == base || floor.isFull() || floor.isPillar(square)) {
            throw new IllegalStateException("no pillar can be set there now");
        }
        int number = floor.setPillar(square);
        measureLengths();
        return number;
    }

    public void base(int column, int row) throws IndexOutOfBoundsException, IllegalStateException {
        requireSquare(column, row);
        int square = squareAt(column, row);
        if (floor.isPillar(square)) {
            throw new IllegalStateException("the square is a pillar");
        }
        base = square;
        place = placeOf(base, EMPTY_WORD);
        stepsMade = 0;
        measureLengths();
    }

    // ---- the crawler

    public int step(int direction) throws IllegalArgumentException, IllegalStateException {
        if (direction < 0 || direction >= DIRECTIONS) {
            throw new IllegalArgumentException("a direction is 0 to 3");
        }
        int next = afterStep(place, direction);
        if (next == NONE) {
            throw new IllegalStateException("the crawler cannot make this step");
        }
        place = next;
        stepsMade++;
        return length();
    }

    public int go(int column, int row) throws IndexOutOfBoundsException, NoSuchElementException {
        requireSquare(column, row);
        int goal = nearestPlaceOf(squareAt(column, row));
        if (goal == NONE) {
            throw new NoSuchElementException("there is no way to the square");
        }
        int made = ways.distanceOf(goal);
        place = goal;
        stepsMade += made;
        return made;
    }

    public int back(int steps) throws IllegalArgumentException {
        if (steps < 1 || steps > MOST_BACK) {
            throw new IllegalArgumentException("steps back are 1 to 60");
        }
        int made = Math.min(steps, length());
        place = alongCable(made);
        stepsMade += made;
        return made;
    }

    // ---- what is asked: the place

    public int column() {
        return columnOf(squareOf(place));
    }

    public int row() {
        return rowOf(squareOf(place));
    }

    public int letters() {
        return lettersOf(wordOf(place));
    }

    public int letterAt(int index) throws IndexOutOfBoundsException {
        int letters = letters();
        if (index < 0 || index >= letters) {
            throw new IndexOutOfBoundsException("the word has not so many letters");
        }
        int beginning = wordOf(place);
        for (int last = letters - 1; last > index; last--) {
            beginning = beginning / DIGIT;
        }
        return lastLetterOf(beginning);
    }

    public int length() {
        return lengths.distanceOf(place);
    }

    public int slack() {
        return limit - length();
    }

    public int steps() {
        return stepsMade;
    }

    public int lengthByTrying(int most) throws IllegalArgumentException {
        if (most < 0 || most > MOST_TRIED) {
            throw new IllegalArgumentException("the steps to try are 0 to 8");
        }
        int fewest = fewestByTrying(floor, placeOf(base, EMPTY_WORD), place, 0, most);
        return fewest > most ? NONE : fewest;
    }

    public int cableAt(int index) throws IndexOutOfBoundsException {
        if (index < 0 || index > length()) {
            throw new IndexOutOfBoundsException("the cable has not so many squares");
        }
        int square = squareOf(alongCable(index));
        return 10 * columnOf(square) + rowOf(square);
    }

    public int bends() {
        int bends = 0;
        int here = place;
        int before = cableDirection(here);
        for (int left = length(); left > 1; left--) {
            here = floor.after(here, before);
            int direction = cableDirection(here);
            if (direction != before) {
                bends++;
            }
            before = direction;
        }
        return bends;
    }

    // ---- goals

    public int least(int column, int row) throws IndexOutOfBoundsException {
        requireSquare(column, row);
        return leastLengthOf(squareAt(column, row));
    }

    public int missing(int column, int row) throws IndexOutOfBoundsException {
        requireSquare(column, row);
        int least = leastLengthOf(squareAt(column, row));
        return least == NONE ? NONE : Math.max(0, least - limit);
    }

    public int words(int column, int row) throws IndexOutOfBoundsException {
        requireSquare(column, row);
        int square = squareAt(column, row);
        int count = 0;
        for (int word = EMPTY_WORD; word < WORDS; word++) {
            if (isWithinLimit(lengths.distanceOf(placeOf(square, word)))) {
                count++;
            }
        }
        return count;
    }

    public int squares() {
        int count = 0;
        for (int square = 0; square < SQUARES; square++) {
            // Every step can be made backwards, so what is within the limit can be come to from anywhere, by the base.
            if (isWithinLimit(leastLengthOf(square))) {
                count++;
            }
        }
        return count;
    }

    // ---- lengths and ways

    private void measureLengths() {
        lengths.begin(placeOf(base, EMPTY_WORD));
        for (int i = 0; i < PLACES && i < lengths.count(); i++) {
            int here = lengths.placeAt(i);
            for (int direction = 0; direction < DIRECTIONS; direction++) {
                lengths.reach(floor.after(here, direction), here);
            }
        }
    }

    /**
     * The place of a square at which the crawler's way there ends; NONE if there is no way. Places are reached in the
     * order of their steps and, among as many, of the ways' directions, as each place is left by the lower ones first:
     * so the first place of the square is that of the way that is asked for.
     */
    private int nearestPlaceOf(int square) {
        ways.begin(place);
        for (int i = 0; i < PLACES && i < ways.count(); i++) {
            int here = ways.placeAt(i);
            if (squareOf(here) == square) {
                return here;
            }
            for (int direction = 0; direction < DIRECTIONS; direction++) {
                ways.reach(afterStep(here, direction), here);
            }
        }
        return NONE;
    }

    /** The place to which a step of the crawler leads; NONE if it cannot make it. */
    private int afterStep(int here, int direction) {
        int next = floor.after(here, direction);
        return isWithinLimit(lengths.distanceOf(next)) ? next : NONE;
    }

    private boolean isWithinLimit(int length) {
        return length != NONE && length <= limit;
    }

    private int leastLengthOf(int square) {
        int least = NONE;
        for (int word = EMPTY_WORD; word < WORDS; word++) {
            int length = lengths.distanceOf(placeOf(square, word));
            if (length != NONE && (least == NONE || length < least)) {
                least = length;
            }
        }
        return least;
    }

    /** The place behind some steps along the cable, of which it has so many. */
    private int alongCable(int steps) {
        int here = place;
        for (int made = 0; made < steps; made++) {
            here = floor.after(here, cableDirection(here));
        }
        return here;
    }

    /** The direction in which the cable goes on from a place towards the base; NONE at its end. */
    private int cableDirection(int here) {
        int length = lengths.distanceOf(here);
        if (length < 1) {
            return NONE;
        }
        for (int direction = 0; direction < DIRECTIONS; direction++) {
            if (lengths.distanceOf(floor.after(here, direction)) == length - 1) {
                return direction;
            }
        }
        return NONE;
    }

    /**
     * The fewest steps, up to a number of them, of all walks to a goal that have made some steps and are here now; that
     * number and 1 if there is none. Walks that can only come too late are given up: those with more steps than the
     * best one found, and those that are too far away on the floor.
     */
    private static int fewestByTrying(Floor floor, int here, int goal, int made, int most) {
        if (here == NONE || made + apart(squareOf(here), squareOf(goal)) > most) {
            return most + 1;
        }
        if (here == goal) {
            return made;
        }
        int fewest = most + 1;
        for (int direction = 0; direction < DIRECTIONS; direction++) {
            fewest = fewestByTrying(floor, floor.after(here, direction), goal, made + 1, fewest - 1);
        }
        return fewest;
    }

    // ---- squares, words and places as numbers

    private void requireSquare(int column, int row) {
        if (!floor.has(column, row)) {
            throw new IndexOutOfBoundsException("there is no such square");
        }
    }

    private static int between(int least, int number, int most) {
        return Math.max(least, Math.min(number, most));
    }

    private static int squareAt(int column, int row) {
        return column * MOST_LINES + row;
    }

    private static int columnOf(int square) {
        return square / MOST_LINES;
    }

    private static int rowOf(int square) {
        return square % MOST_LINES;
    }

    private static int apart(int one, int other) {
        return Math.abs(columnOf(one) - columnOf(other)) + Math.abs(rowOf(one) - rowOf(other));
    }

    private static int placeOf(int square, int word) {
        return square * WORDS + word;
    }

    private static int squareOf(int place) {
        return place / WORDS;
    }

    private static int wordOf(int place) {
        return place % WORDS;
    }

    private static int lettersOf(int word) {
        int letters = 0;
        int left = word;
        while (left > EMPTY_WORD && letters < MOST_LETTERS) {
            left = left / DIGIT;
            letters++;
        }
        return letters;
    }

    /** The last letter of a word; NONE if it has no letters. */
    private static int lastLetterOf(int word) {
        return word % DIGIT - 1;
    }

    private static int oppositeOf(int letter) {
        return letter ^ 1;
    }

    private static int withLetter(int word, int letter) {
        if (lastLetterOf(word) == oppositeOf(letter)) {
            return word / DIGIT;
        }
        return word * DIGIT + letter + 1;
    }

    /** The floor with its pillars, and where steps on it lead. */
    private static final class Floor {

        private final int columns;
        private final int rows;
        private final int[] pillarNumbers = new int[SQUARES];
        private int pillars;

        Floor(int columns, int rows) {
            this.columns = columns;
            this.rows = rows;
            Arrays.fill(pillarNumbers, NONE);
        }

        boolean has(int column, int row) {
            return column >= 0 && column < columns && row >= 0 && row < rows;
        }

        boolean isFull() {
            return pillars >= MOST_PILLARS;
        }

        boolean isPillar(int square) {
            return pillarNumberOf(square) != NONE;
        }

        /** Sets a pillar and returns its number; NONE if there is no room for it. */
        int setPillar(int square) {
            if (isFull() || square < 0 || square >= pillarNumbers.length) {
                return NONE;
            }
            int number = pillars;
            pillarNumbers[square] = number;
            pillars++;
            return number;
        }

        /** The place to which a step leads in a walk; NONE if it cannot be made in a walk. */
        int after(int place, int direction) {
            int column = columnOf(squareOf(place));
            int row = rowOf(squareOf(place));
            switch (direction) {
                case UP:
                    return placeAt(column, row - 1, wordOf(place));
                case RIGHT:
                    return placeAt(column + 1, row, wordToTheRight(wordOf(place), column, row));
                case DOWN:
                    return placeAt(column, row + 1, wordOf(place));
                case LEFT:
                    return placeAt(column - 1, row, wordToTheLeft(wordOf(place), column - 1, row));
                default:
                    return NONE;
            }
        }

        private int placeAt(int column, int row, int word) {
            // Words of more than 3 letters are the numbers from WORDS on, as no digit is 0.
            if (word >= WORDS || !has(column, row) || isPillar(squareAt(column, row))) {
                return NONE;
            }
            return placeOf(squareAt(column, row), word);
        }

        private int wordToTheRight(int word, int column, int row) {
            int longer = word;
            for (int below = row + 1; below < rows; below++) {
                int number = pillarNumberOf(squareAt(column, below));
                if (number != NONE) {
                    longer = withLetter(longer, 2 * number);
                }
            }
            return longer;
        }

        private int wordToTheLeft(int word, int column, int row) {
            int longer = word;
            for (int below = rows - 1; below > row; below--) {
                int number = pillarNumberOf(squareAt(column, below));
                if (number != NONE) {
                    longer = withLetter(longer, oppositeOf(2 * number));
                }
            }
            return longer;
        }

        private int pillarNumberOf(int square) {
            return square >= 0 && square < pillarNumbers.length ? pillarNumbers[square] : NONE;
        }
    }

    /** Places in the order in which they are reached from a first one, and how many steps away from it they are. */
    private static final class Spread {

        private final int[] distances = new int[PLACES];
        private final int[] reached = new int[SQUARES * MOST_WORDS];
        private int count;

        void begin(int first) {
            Arrays.fill(distances, NONE);
            count = 0;
            add(first, 0);
        }

        /** Reaches a place from one that is reached already; nothing if the place is NONE or reached before. */
        void reach(int place, int from) {
            if (distanceOf(place) == NONE) {
                add(place, distanceOf(from) + 1);
            }
        }

        int count() {
            return count;
        }

        int placeAt(int index) {
            return index >= 0 && index < count && index < reached.length ? reached[index] : NONE;
        }

        /** How many steps a place is away; NONE if it is not reached, or is no place. */
        int distanceOf(int place) {
            return place >= 0 && place < distances.length ? distances[place] : NONE;
        }

        private void add(int place, int distance) {
            if (place >= 0 && place < distances.length && count >= 0 && count < reached.length) {
                distances[place] = distance;
                reached[count] = place;
                count++;
            }
        }
    }
}

import java.util.List;
import java.util.TreeSet;

/** The document's Terms, sentence by sentence where one names a bound: floor, pillars, words, places, limit, cable. */
public final class TermsTest {

    private static final int UP = 0;
    private static final int RIGHT = 1;
    private static final int DOWN = 2;
    private static final int LEFT = 3;

    public static void main(String[] args) {
        squaresAreNumberedFromZero();
        rowZeroIsTheUpperOne();
        threePillarsAndNoMore();
        theBaseIsFree();
        stepsToSquaresSideBySide();
        lettersOfEachPillar();
        letterInTheRowsAboveAlone();
        letterBehindThePillarsColumnAlone();
        pillarsAtTheEdgesWindNothing();
        upperLettersFirstToTheRight();
        oppositesOfAllPillarsGo();
        neighboursThatAreNoOpposites();
        theSameLetterTwiceStays();
        severalLettersGoAtOnce();
        threeLettersInAStep();
        fourLettersBySteps();
        fourLettersByStepsToTheLeft();
        wordsThatOnlyLongerOnesLeadTo();
        wordSinceTheBase();
        lengthIsThatOfTheShortestWalk();
        limitJustReached();
        longestLimitJustReached();
        cableIsAsLongAsTheLength();
        lowestDirectionsOfTheCable();
        questionsChangeNothing();
        used512Times();
        Check.end("TermsTest");
    }

    private static void walk(Tetherline x, int... directions) {
        for (int direction : directions) {
            x.step(direction);
        }
    }

    /** A walk written as a text of directions. */
    private static void walk(Tetherline x, String directions) {
        for (int i = 0; i < directions.length(); i++) {
            x.step(directions.charAt(i) - '0');
        }
    }

    private static void dueWord(String where, Tetherline x, int... word) {
        StringBuilder want = new StringBuilder();
        for (int letter : word) {
            want.append(' ').append(letter);
        }
        StringBuilder got = new StringBuilder();
        for (int i = 0; i < x.letters(); i++) {
            got.append(' ').append(x.letterAt(i));
        }
        Check.dueText("the word " + where, want.toString(), got.toString());
        Check.due("letters() " + where, word.length, x.letters());
    }

    private static void dueSquare(String where, Tetherline x, int column, int row) {
        Check.due("column() " + where, column, x.column());
        Check.due("row() " + where, row, x.row());
    }

    private static void dueRefused(String step, Tetherline x, int direction) {
        int steps = x.steps();
        int length = x.length();
        int letters = x.letters();
        int square = 10 * x.column() + x.row();
        Check.dueThrow(step, IllegalStateException.class, () -> x.step(direction));
        Check.due("steps() behind " + step, steps, x.steps());
        Check.due("length() behind " + step, length, x.length());
        Check.due("letters() behind " + step, letters, x.letters());
        Check.due("the square behind " + step, square, 10 * x.column() + x.row());
    }

    // ---- "3 to 7 of each, numbered from 0; row 0 is the upper one"

    private static void squaresAreNumberedFromZero() {
        for (int side = 3; side <= 7; side++) {
            Tetherline x = new Tetherline(side, 10 - side, 60);
            int last = side - 1;
            int lowest = 9 - side;
            Check.due("go to the last square of all", last + lowest, x.go(last, lowest));
            dueSquare("at the last square of all", x, last, lowest);
            dueRefused("a step right of the last column " + last, x, RIGHT);
            dueRefused("a step below the lowest row " + lowest, x, DOWN);
            Check.due("go to the first square of all", last + lowest, x.go(0, 0));
            dueRefused("a step left of column 0", x, LEFT);
            dueRefused("a step above row 0", x, UP);
        }
    }

    private static void rowZeroIsTheUpperOne() {
        Tetherline x = new Tetherline(3, 3, 60);
        x.base(1, 1);
        x.step(UP);
        dueSquare("up from row 1", x, 1, 0);
        dueRefused("up from row 0", x, UP);
        x.base(1, 1);
        x.step(DOWN);
        dueSquare("down from row 1", x, 1, 2);
        dueRefused("down from the lowest row", x, DOWN);
    }

    // ---- "At most 3 squares are pillars, numbered from 0 ...; all others are free. One free square is the base"

    private static void threePillarsAndNoMore() {
        Tetherline x = new Tetherline(4, 4, 60);
        Check.due("the first pillar", 0, x.pillar(1, 1));
        Check.due("the second pillar", 1, x.pillar(2, 2));
        Check.due("the third pillar", 2, x.pillar(3, 3));
        Check.dueThrow("a fourth pillar", IllegalStateException.class, () -> x.pillar(3, 0));
        Check.due("the fourth is no pillar", 3, x.least(3, 0));
        Check.due("squares() of 16 less 3", 13, x.squares());
    }

    private static void theBaseIsFree() {
        Tetherline x = new Tetherline(3, 3, 60);
        Check.dueThrow("a pillar on the first base", IllegalStateException.class, () -> x.pillar(0, 0));
        x.base(2, 2);
        Check.due("a pillar on the first base, left", 0, x.pillar(0, 0));
        Check.dueThrow("a pillar on the base", IllegalStateException.class, () -> x.pillar(2, 2));
        Check.dueThrowOf("the base on a pillar", IllegalStateException.class, () -> x.base(0, 0));
        Check.due("least of the base", 0, x.least(2, 2));
        Check.due("least of the pillar", -1, x.least(0, 0));
    }

    private static void stepsToSquaresSideBySide() {
        int[][] ends = {{1, 0}, {2, 1}, {1, 2}, {0, 1}};
        for (int direction = 0; direction < 4; direction++) {
            Tetherline x = new Tetherline(3, 3, 60);
            x.base(1, 1);
            x.step(direction);
            dueSquare("behind step(" + direction + ")", x, ends[direction][0], ends[direction][1]);
            Tetherline closed = new Tetherline(3, 3, 60);
            closed.base(1, 1);
            closed.pillar(ends[direction][0], ends[direction][1]);
            dueRefused("step(" + direction + ") into a pillar", closed, direction);
        }
    }

    // ---- "A pillar ... has letter 2 * its number, and, the other way round, letter 2 * its number + 1"

    /** A floor of 7 by 3 with a pillar in the middle row of the columns 1, 3 and 5, in the order that is given. */
    private static Tetherline threeInARow(int... columns) {
        Tetherline x = new Tetherline(7, 3, 60);
        for (int column : columns) {
            x.pillar(column, 1);
        }
        return x;
    }

    private static void lettersOfEachPillar() {
        Tetherline x = threeInARow(1, 3, 5);
        walk(x, 1, 1, 1, 1, 1, 1);
        dueWord("to the right above all three", x, 0, 2, 4);
        walk(x, 2, 2, 3, 3, 3, 3, 3, 3);
        dueWord("to the left below all three", x, 0, 2, 4);
        x.base(6, 0);
        walk(x, 3, 3, 3, 3, 3, 3);
        dueWord("to the left above all three", x, 5, 3, 1);
        walk(x, 2, 2, 1, 1, 1, 1, 1, 1);
        dueWord("to the right below all three", x, 5, 3, 1);
        Tetherline other = threeInARow(5, 1, 3);
        walk(other, 1, 1, 1, 1, 1, 1);
        dueWord("to the right, numbered in another order", other, 2, 4, 0);
        other.base(6, 0);
        walk(other, 3, 3, 3, 3, 3, 3);
        dueWord("to the left, numbered in another order", other, 1, 5, 3);
    }

    // ---- "A step to the right from the column c to c + 1 in a row above r (a lesser one)"

    private static void letterInTheRowsAboveAlone() {
        for (int row = 0; row < 7; row++) {
            if (row == 3) {
                continue;
            }
            Tetherline x = new Tetherline(7, 7, 60);
            x.base(3, row);
            x.pillar(3, 3);
            x.step(RIGHT);
            dueWord("to the right in row " + row, x, row < 3 ? new int[] {0} : new int[0]);
            x.base(4, row);
            x.step(LEFT);
            dueWord("to the left in row " + row, x, row < 3 ? new int[] {1} : new int[0]);
        }
    }

    private static void letterBehindThePillarsColumnAlone() {
        for (int column = 0; column < 6; column++) {
            Tetherline x = new Tetherline(7, 7, 60);
            x.base(column, 2);
            x.pillar(3, 3);
            x.step(RIGHT);
            dueWord("to the right from column " + column, x, column == 3 ? new int[] {0} : new int[0]);
            x.base(column + 1, 2);
            x.step(LEFT);
            dueWord("to the left to column " + column, x, column == 3 ? new int[] {1} : new int[0]);
        }
    }

    /** There is no way round such a pillar, so that all walks to a square have one word. */
    private static void pillarsAtTheEdgesWindNothing() {
        for (int column = 0; column < 4; column++) {
            for (int row = 0; row < 4; row++) {
                boolean inside = column > 0 && column < 3 && row > 0 && row < 3;
                Tetherline x = new Tetherline(4, 4, 60);
                x.base(column == 3 ? 1 : column + 1, row == 3 ? 1 : row + 1);
                Check.due("the number of the pillar", 0, x.pillar(column, row));
                int far = column == 3 && row == 3 ? 0 : 3;
                Check.due("words() with a pillar at " + column + " " + row, inside ? 7 : 1, x.words(far, far));
            }
        }
    }

    // ---- "those of upper pillars come first in a step to the right, and last in a step to the left"

    private static void upperLettersFirstToTheRight() {
        int[][] orders = {{1, 3, 5}, {1, 5, 3}, {3, 1, 5}, {3, 5, 1}, {5, 1, 3}, {5, 3, 1}};
        for (int[] rows : orders) {
            Tetherline x = ladder(rows);
            int upper = numberAt(rows, 1);
            int middle = numberAt(rows, 3);
            int lower = numberAt(rows, 5);
            walk(x, 1, 1);
            dueWord("to the right above all", x, 2 * upper, 2 * middle, 2 * lower);
            x.base(2, 0);
            walk(x, 3, 3);
            dueWord("to the left above all", x, 2 * lower + 1, 2 * middle + 1, 2 * upper + 1);
            x.base(0, 2);
            walk(x, 1, 1);
            dueWord("to the right above two", x, 2 * middle, 2 * lower);
            x.base(2, 2);
            walk(x, 3, 3);
            dueWord("to the left above two", x, 2 * lower + 1, 2 * middle + 1);
            x.base(0, 4);
            walk(x, 1, 1);
            dueWord("to the right above the lowest", x, 2 * lower);
            x.base(0, 6);
            walk(x, 1, 1);
            dueWord("to the right below all", x);
        }
    }

    /** A floor of 3 by 7 with pillars in the middle column: it can be crossed above, between and below them. */
    private static Tetherline ladder(int... rows) {
        Tetherline x = new Tetherline(3, 7, 60);
        for (int row : rows) {
            x.pillar(1, row);
        }
        return x;
    }

    private static int numberAt(int[] rows, int row) {
        for (int number = 0; number < rows.length; number++) {
            if (rows[number] == row) {
                return number;
            }
        }
        return -1;
    }

    /** Goes to the row at the side where the crawler is, and crosses the ladder there. */
    private static void cross(Tetherline x, int row, int direction) {
        stand(x, row, direction);
        x.step(direction);
    }

    /** Goes to the row, and to the square before that step which has the letters. */
    private static void stand(Tetherline x, int row, int direction) {
        while (x.row() > row) {
            x.step(UP);
        }
        while (x.row() < row) {
            x.step(DOWN);
        }
        if (direction == RIGHT) {
            x.step(RIGHT);
        }
    }

    private static void crossRight(Tetherline x, int row) {
        cross(x, row, RIGHT);
    }

    private static void crossLeft(Tetherline x, int row) {
        cross(x, row, LEFT);
        x.step(LEFT);
    }

    // ---- "whenever the last letter ... is that of a pillar and the next one is the same the other way round, ...
    // ---- or the opposite, both go"

    private static void oppositesOfAllPillarsGo() {
        int[][] orders = {{1, 3, 5}, {3, 5, 1}, {5, 1, 3}};
        for (int[] columns : orders) {
            for (int number = 0; number < 3; number++) {
                Tetherline x = threeInARow(columns);
                x.base(columns[number], 0);
                x.step(RIGHT);
                dueWord("right above pillar " + number, x, 2 * number);
                x.step(LEFT);
                dueWord("right and left above pillar " + number, x);
                x.base(columns[number] + 1, 0);
                x.step(LEFT);
                dueWord("left above pillar " + number, x, 2 * number + 1);
                x.step(RIGHT);
                dueWord("left and right above pillar " + number, x);
            }
        }
    }

    private static void neighboursThatAreNoOpposites() {
        Tetherline x = threeInARow(1, 3, 5);
        x.base(2, 0);
        walk(x, 3, 3, 2, 2, 1, 1, 0, 0, 1, 1);
        dueWord("left above 0, back below it, and right above 1", x, 1, 2);
        x.base(2, 0);
        walk(x, 1, 1, 2, 2, 3, 3, 0, 0, 3, 3);
        dueWord("right above 1, back below it, and left above 0", x, 2, 1);
        x.base(4, 0);
        walk(x, 3, 3, 2, 2, 1, 1, 0, 0, 1, 1);
        dueWord("left above 1, back below it, and right above 2", x, 3, 4);
        x.base(4, 0);
        walk(x, 1, 1, 2, 2, 3, 3, 0, 0, 3, 3);
        dueWord("right above 2, back below it, and left above 1", x, 4, 3);
        x.base(2, 0);
        walk(x, 3, 3, 2, 2, 1, 1, 0, 0, 1, 1, 1, 1, 2, 2, 3, 3, 3, 3, 0, 0);
        dueWord("with 1, 2 and 4 between the first two pillars", x, 1, 2, 4);
        Check.due("the letter taken back is the last one alone", 4, x.letterAt(2));
    }

    private static void theSameLetterTwiceStays() {
        Tetherline x = new Tetherline(3, 3, 60);
        x.pillar(1, 1);
        walk(x, 1, 1, 2, 2, 3, 3, 0, 0, 1, 1);
        dueWord("twice to the right above a pillar", x, 0, 0);
        x.base(2, 0);
        walk(x, 3, 3, 2, 2, 1, 1, 0, 0, 3, 3);
        dueWord("twice to the left above a pillar", x, 1, 1);
    }

    private static void severalLettersGoAtOnce() {
        Tetherline x = ladder(1, 3, 5);
        crossRight(x, 0);
        dueWord("above all", x, 0, 2, 4);
        x.step(LEFT);
        dueWord("and back the same way: three go", x);
        x.step(RIGHT);
        crossLeft(x, 2);
        dueWord("and back below the upper one: two go", x, 0);
        crossRight(x, 2);
        dueWord("and again", x, 0, 2, 4);
        crossLeft(x, 4);
        dueWord("and back above the lowest: one goes", x, 0, 2);
        crossRight(x, 4);
        crossLeft(x, 6);
        dueWord("and back below all: none goes", x, 0, 2, 4);
        x.base(0, 0);
        crossRight(x, 2);
        crossLeft(x, 0);
        dueWord("right above two and left above all: one is left", x, 1);
        x.base(0, 0);
        crossRight(x, 4);
        crossLeft(x, 0);
        dueWord("right above one and left above all: two are left", x, 3, 1);
    }

    // ---- "A word has at most 3 letters: a step with which, behind all of its letters, it would have more cannot be
    // ---- made"

    private static void threeLettersInAStep() {
        Tetherline x = ladder(1, 3, 5);
        stand(x, 0, RIGHT);
        Check.due("the step with three letters", 2, x.step(RIGHT));
        Check.due("letters() behind it", 3, x.letters());
        crossLeft(x, 6);
        stand(x, 4, RIGHT);
        dueRefused("a step with 1 letter behind 3", x, RIGHT);
        x.step(LEFT);
        stand(x, 2, RIGHT);
        dueRefused("a step with 2 letters behind 3", x, RIGHT);
        x.step(LEFT);
        stand(x, 0, RIGHT);
        dueRefused("a step with 3 letters behind 3", x, RIGHT);
        x.step(LEFT);
        crossRight(x, 6);
        dueWord("a step without letters behind 3", x, 0, 2, 4);
    }

    private static void fourLettersBySteps() {
        Tetherline x = ladder(1, 3, 5);
        crossRight(x, 4);
        crossLeft(x, 6);
        stand(x, 0, RIGHT);
        dueRefused("a step with 3 letters behind 1", x, RIGHT);
        x.step(LEFT);
        crossRight(x, 2);
        dueWord("a step with 2 letters behind 1", x, 4, 2, 4);
        x.base(0, 0);
        crossRight(x, 2);
        crossLeft(x, 6);
        stand(x, 2, RIGHT);
        dueRefused("a step with 2 letters behind 2", x, RIGHT);
        x.step(LEFT);
        stand(x, 0, RIGHT);
        dueRefused("a step with 3 letters behind 2", x, RIGHT);
        x.step(LEFT);
        crossRight(x, 4);
        dueWord("a step with 1 letter behind 2", x, 2, 4, 4);
    }

    private static void fourLettersByStepsToTheLeft() {
        Tetherline x = ladder(1, 3, 5);
        x.base(2, 0);
        x.step(LEFT);
        dueWord("a step to the left with 3 letters", x, 5, 3, 1);
        x.base(2, 4);
        crossLeft(x, 4);
        crossRight(x, 6);
        stand(x, 0, LEFT);
        dueRefused("a step to the left with 3 letters behind 1", x, LEFT);
        stand(x, 2, LEFT);
        x.step(LEFT);
        dueWord("a step to the left with 2 letters behind 1", x, 5, 5, 3);
        x.base(2, 2);
        crossLeft(x, 2);
        crossRight(x, 6);
        stand(x, 2, LEFT);
        dueRefused("a step to the left with 2 letters behind 2", x, LEFT);
        crossLeft(x, 4);
        dueWord("a step to the left with 1 letter behind 2", x, 5, 3, 5);
        crossRight(x, 6);
        stand(x, 4, LEFT);
        dueRefused("a step to the left with 1 letter behind 3", x, LEFT);
    }

    /** To the left, a lone 0 comes only where a 2 is taken back: behind two letters more, that would be the fourth. */
    private static void wordsThatOnlyLongerOnesLeadTo() {
        Tetherline x = new Tetherline(3, 5, 60);
        x.pillar(1, 1);
        x.pillar(1, 3);
        int due = wordsOfTwoInAColumn();
        Check.due("words() with a pillar below another one", due, x.words(0, 0));
        Check.due("they are fewer than all words of 2 pillars", 1, due < 1 + 4 + 12 + 36 ? 1 : 0);
    }

    /** Counts the words at the left by crossing to the right and back, with words of 3 letters at most. */
    private static int wordsOfTwoInAColumn() {
        String[] right = {"02", "2", ""};
        String[] left = {"31", "3", ""};
        TreeSet<String> atTheLeft = new TreeSet<>(List.of(""));
        TreeSet<String> atTheRight = new TreeSet<>();
        int before = -1;
        while (before != atTheLeft.size() + atTheRight.size()) {
            before = atTheLeft.size() + atTheRight.size();
            for (String word : atTheLeft.toArray(new String[0])) {
                for (String letters : right) {
                    addIfShort(atTheRight, shortened(word + letters));
                }
            }
            for (String word : atTheRight.toArray(new String[0])) {
                for (String letters : left) {
                    addIfShort(atTheLeft, shortened(word + letters));
                }
            }
        }
        return atTheLeft.size();
    }

    private static void addIfShort(TreeSet<String> words, String word) {
        if (word.length() <= 3) {
            words.add(word);
        }
    }

    private static String shortened(String word) {
        String shorter = word.replaceFirst("01|10|23|32", "");
        return shorter.equals(word) ? word : shortened(shorter);
    }

    // ---- "its square and the word of all of its steps since it was put at the base"

    private static void wordSinceTheBase() {
        Tetherline x = new Tetherline(3, 3, 60);
        x.pillar(1, 1);
        walk(x, 1, 1);
        dueWord("before base()", x, 0);
        x.base(2, 0);
        dueWord("behind base() where it is", x);
        walk(x, 3, 3);
        dueWord("to the left from there", x, 1);
        Check.due("length() from there", 2, x.length());
    }

    private static void lengthIsThatOfTheShortestWalk() {
        Tetherline x = new Tetherline(3, 3, 60);
        x.pillar(1, 1);
        int[] there = {1, 1, 2, 2, 3, 3, 0};
        for (int made = 1; made <= there.length; made++) {
            Check.due("length() with the word of the way round", made, x.step(there[made - 1]));
        }
        Check.due("least() of that square, with no letters", 1, x.least(0, 1));
        walk(x, 2, 1, 1, 0, 0, 3, 3, 2);
        dueWord("unwound", x);
        Check.due("length() of that square, with no letters", 1, x.length());
        Check.due("steps() of both ways", 15, x.steps());
    }

    // ---- "a step that leads to a place whose length is above it cannot be made"

    private static void limitJustReached() {
        for (int limit = 1; limit <= 11; limit++) {
            Tetherline x = new Tetherline(7, 7, limit);
            for (int made = 1; made <= limit; made++) {
                Check.due("a step at limit " + limit, made, x.step(made <= 6 ? RIGHT : DOWN));
            }
            Check.due("slack() at limit " + limit, 0, x.slack());
            dueRefused("a step above limit " + limit, x, limit < 6 ? RIGHT : DOWN);
            Check.due("back from limit " + limit, limit - 1, x.step(limit <= 6 ? LEFT : UP));
        }
    }

    /** Down to the lowest row, from there round pillar 1, then round both pillars, and up to the base's square. */
    private static final String FAR = "222222" + "111100000011223333222233" + "001111000011223333222233" + "000000";

    private static Tetherline twoFarApart(int limit) {
        Tetherline x = new Tetherline(7, 7, limit);
        x.pillar(1, 5);
        x.pillar(5, 1);
        return x;
    }

    private static void longestLimitJustReached() {
        for (int limit : new int[] {60, 61, Integer.MAX_VALUE}) {
            Tetherline x = twoFarApart(limit);
            walk(x, FAR);
            dueWord("at the longest limit", x, 2, 0, 2);
            dueSquare("at the longest limit", x, 0, 0);
            Check.due("length() at the longest limit", 60, x.length());
            Check.due("slack() at the longest limit", 0, x.slack());
            dueRefused("a step to a length of 61", x, RIGHT);
        }
        Tetherline less = twoFarApart(59);
        walk(less, FAR.substring(0, 59));
        Check.due("length() at limit 59", 59, less.length());
        dueRefused("a step to a length of 60 at limit 59", less, UP);
    }

    // ---- "The taut cable is that long." "of several such steps that with the lowest direction"

    private static void cableIsAsLongAsTheLength() {
        Tetherline x = twoFarApart(60);
        walk(x, FAR);
        Check.due("the cable's first square", 0, x.cableAt(0));
        Check.due("the cable's last square but one", 1, x.cableAt(59));
        Check.due("the cable's last square", 0, x.cableAt(60));
        Check.dueThrow("cableAt(61)", IndexOutOfBoundsException.class, () -> x.cableAt(61));
        for (int i = 1; i <= 60; i++) {
            int across = x.cableAt(i) / 10 - x.cableAt(i - 1) / 10;
            int down = x.cableAt(i) % 10 - x.cableAt(i - 1) % 10;
            Check.due("squares of the cable side by side", 1, Math.abs(across) + Math.abs(down));
        }
    }

    private static void lowestDirectionsOfTheCable() {
        // From a square at a corner away from the base both ways are as short.
        dueSecond("up before right", 2, 1, 1, 2, 11);
        dueSecond("up before left", 1, 1, 2, 2, 21);
        dueSecond("right before down", 2, 2, 1, 1, 21);
        dueSecond("down before left", 1, 2, 2, 1, 22);
    }

    private static void dueSecond(String which, int baseColumn, int baseRow, int column, int row, int due) {
        Tetherline x = new Tetherline(4, 4, 60);
        x.base(baseColumn, baseRow);
        x.go(column, row);
        Check.due("length() of a corner away", 2, x.length());
        Check.due("cableAt(1): " + which, due, x.cableAt(1));
        x.back(1);
        dueSquare("back(1): " + which, x, due / 10, due % 10);
    }

    // ---- "questions are asked, which change nothing"

    private static void questionsChangeNothing() {
        Tetherline asked = ladder(1, 3, 5);
        Tetherline twin = ladder(1, 3, 5);
        for (Tetherline x : new Tetherline[] {asked, twin}) {
            crossRight(x, 2);
            crossLeft(x, 0);
        }
        String first = State.of(asked);
        Check.dueText("all answers asked again", first, State.of(asked));
        for (Tetherline x : new Tetherline[] {asked, twin}) {
            Check.due("go behind all questions", 2, x.go(2, 0));
            Check.due("steps() behind all questions", 10, x.steps());
            Check.due("back behind all questions", x.length(), x.back(60));
        }
        Check.dueText("all answers at the base", State.of(twin), State.of(asked));
    }

    // ---- "An object is used for at most 512 calls"

    private static void used512Times() {
        Tetherline x = new Tetherline(7, 7, 60);
        int[] round = {1, 2, 3, 0};
        int[] lengths = {1, 2, 1, 0};
        for (int call = 0; call < 511; call++) {
            Check.due("call " + call, lengths[call % 4], x.step(round[call % 4]));
        }
        Check.due("steps() as the 512th call", 511, x.steps());
        Tetherline far = new Tetherline(7, 7, 60);
        for (int call = 0; call < 511; call++) {
            Check.due("go as call " + call, 12, call % 2 == 0 ? far.go(6, 6) : far.go(0, 0));
        }
        Check.due("steps() of 511 ways", 511 * 12, far.steps());
    }
}

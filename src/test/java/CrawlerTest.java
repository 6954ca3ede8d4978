import java.util.NoSuchElementException;

/** Promises 4 (step), 5 (go) and 6 (back). */
public final class CrawlerTest {

    private static final int MIN = Integer.MIN_VALUE;
    private static final int MAX = Integer.MAX_VALUE;

    public static void main(String[] args) {
        stepsGoTheirDirections();
        stepReturnsTheLengthNotTheSteps();
        stepIsRefusedAtWallsAndPillars();
        stepIsRefusedForItsWord();
        stepWhoseFirstLetterTakesOneAway();
        stepIsRefusedForItsLength();
        stepAboveTheLimitAtTheSameSquares();
        directionsOutOfRange();
        goTakesTheFewestSteps();
        goTakesTheLowestDirections();
        goKeepsToTheLimit();
        goIsRefused();
        backFollowsTheCable();
        backStopsAtTheBase();
        backIsRefused();
        Check.end("CrawlerTest");
    }

    private static void stepsGoTheirDirections() {
        Tetherline x = new Tetherline(5, 5, 60);
        x.base(2, 2);
        int[][] ends = {{2, 1}, {3, 2}, {2, 3}, {1, 2}};
        for (int direction = 0; direction < 4; direction++) {
            x.base(2, 2);
            Check.due("step(" + direction + ")", 1, x.step(direction));
            Check.due("column() behind step(" + direction + ")", ends[direction][0], x.column());
            Check.due("row() behind step(" + direction + ")", ends[direction][1], x.row());
            Check.due("steps() behind step(" + direction + ")", 1, x.steps());
        }
    }

    private static void stepReturnsTheLengthNotTheSteps() {
        Tetherline x = new Tetherline(5, 5, 60);
        Check.due("step(1)", 1, x.step(1));
        Check.due("step(2)", 2, x.step(2));
        Check.due("step(3)", 1, x.step(3));
        Check.due("step(0)", 0, x.step(0));
        Check.due("steps()", 4, x.steps());
        Check.due("column()", 0, x.column());
        Check.due("row()", 0, x.row());
    }

    private static void stepIsRefusedAtWallsAndPillars() {
        Tetherline x = new Tetherline(3, 4, 60);
        x.pillar(1, 1);
        int[][] corners = {{0, 0, 0, 3}, {2, 0, 0, 1}, {2, 3, 1, 2}, {0, 3, 2, 3}};
        for (int[] corner : corners) {
            x.base(corner[0], corner[1]);
            Check.dueThrow("a step out of the floor", IllegalStateException.class, () -> x.step(corner[2]));
            Check.dueThrow("a step out of the floor", IllegalStateException.class, () -> x.step(corner[3]));
            Check.due("column() then", corner[0], x.column());
            Check.due("row() then", corner[1], x.row());
            Check.due("steps() then", 0, x.steps());
        }
        int[][] sides = {{1, 0, 2}, {0, 1, 1}, {1, 2, 0}, {2, 1, 3}};
        for (int[] side : sides) {
            x.base(side[0], side[1]);
            Check.dueThrow("a step into a pillar", IllegalStateException.class, () -> x.step(side[2]));
            Check.due("steps() then", 0, x.steps());
            Check.due("column() then", side[0], x.column());
        }
    }

    /** Round a pillar of a floor of 3 by 3, to the right above it: every round of 8 steps has a letter more. */
    private static void stepIsRefusedForItsWord() {
        Tetherline x = new Tetherline(3, 3, 60);
        x.pillar(1, 1);
        int[] round = {1, 1, 2, 2, 3, 3, 0, 0};
        int length = 0;
        for (int turn = 1; turn <= 3; turn++) {
            for (int direction : round) {
                length++;
                Check.due("step(" + direction + ") in round " + turn, length, x.step(direction));
            }
            Check.due("letters() behind round " + turn, turn, x.letters());
        }
        x.step(1);
        // From the column 1 the step to the right would bring the fourth letter.
        Check.dueThrow("a fourth letter", IllegalStateException.class, () -> x.step(1));
        Check.due("letters() then", 3, x.letters());
        Check.due("length() then", 25, x.length());
        Check.due("steps() then", 25, x.steps());
        Check.due("the way back is free", 24, x.step(3));
    }

    /** With 3 letters, a step with two letters of which the first takes one away leaves 3. */
    private static void stepWhoseFirstLetterTakesOneAway() {
        Tetherline x = new Tetherline(4, 5, 60);
        x.pillar(1, 3);
        x.pillar(1, 1);
        x.base(0, 2);
        for (int round = 0; round < 2; round++) {
            walk(x, 0, 2, 1, 1, 2, 2, 3, 3, 0, 0);
        }
        walk(x, 1, 1);
        Check.due("letters() round the lower one", 3, x.letters());
        walk(x, 0, 0);
        Check.due("length() of the step to the left above both", x.length() + 1, x.step(3));
        Check.due("letters() then", 3, x.letters());
        Check.due("letterAt(1) then", 0, x.letterAt(1));
        Check.due("letterAt(2) then", 3, x.letterAt(2));
        Check.due("length() of the step to the right above both", x.length() - 1, x.step(1));
        Check.due("letters() then", 3, x.letters());
        Check.due("letterAt(2) then", 0, x.letterAt(2));
    }

    private static void walk(Tetherline x, int... directions) {
        for (int direction : directions) {
            x.step(direction);
        }
    }

    private static void stepIsRefusedForItsLength() {
        Tetherline x = new Tetherline(7, 7, 5);
        for (int made = 1; made <= 5; made++) {
            Check.due("step(1) within the limit", made, x.step(1));
        }
        Check.dueThrow("step(1) above the limit", IllegalStateException.class, () -> x.step(1));
        Check.dueThrow("step(2) above the limit", IllegalStateException.class, () -> x.step(2));
        Check.due("column() then", 5, x.column());
        Check.due("row() then", 0, x.row());
        Check.due("steps() then", 5, x.steps());
        Check.due("length() then", 5, x.length());
        Check.due("step(3) is still made", 4, x.step(3));
        Check.due("step(2) at the limit", 5, x.step(2));
    }

    /** The limit asks for the length of the place: the same square, wound round the pillar, is too far. */
    private static void stepAboveTheLimitAtTheSameSquares() {
        Tetherline x = new Tetherline(3, 3, 6);
        x.pillar(1, 1);
        int[] round = {1, 1, 2, 2, 3, 3};
        for (int made = 0; made < 6; made++) {
            Check.due("step " + made, made + 1, x.step(round[made]));
        }
        Check.dueThrow("a seventh step on", IllegalStateException.class, () -> x.step(0));
        Check.due("least of that square", 1, x.least(0, 1));
        Check.due("step(1) unwinds", 5, x.step(1));
    }

    private static void directionsOutOfRange() {
        Tetherline x = new Tetherline(3, 3, 1);
        x.pillar(1, 1);
        for (int direction : new int[] {-1, -2, -4, 4, 5, 8, MIN, MAX}) {
            Check.dueThrow("step(" + direction + ")", IllegalArgumentException.class, () -> x.step(direction));
        }
        x.step(1);
        Check.dueThrow("step(4) at the limit", IllegalArgumentException.class, () -> x.step(4));
        Check.dueThrow("step(-1) beside a pillar", IllegalArgumentException.class, () -> x.step(-1));
        Check.due("steps()", 1, x.steps());
    }

    private static void goTakesTheFewestSteps() {
        Tetherline x = new Tetherline(7, 7, 60);
        Check.due("go(0, 0) at once", 0, x.go(0, 0));
        Check.due("go(6, 6)", 12, x.go(6, 6));
        Check.due("column()", 6, x.column());
        Check.due("row()", 6, x.row());
        Check.due("steps()", 12, x.steps());
        Check.due("go(6, 6) again", 0, x.go(6, 6));
        Check.due("go(3, 5)", 4, x.go(3, 5));
        Check.due("steps()", 16, x.steps());
        Check.due("length()", 8, x.length());
    }

    /** To the far side of a pillar there are two ways of the same number of steps: the word tells which it took. */
    private static void goTakesTheLowestDirections() {
        Tetherline x = new Tetherline(3, 3, 60);
        x.pillar(1, 1);
        Check.due("go(2, 2)", 4, x.go(2, 2));
        Check.due("letters(): right before down", 1, x.letters());
        Check.due("letterAt(0)", 0, x.letterAt(0));
        Check.due("go(0, 0)", 4, x.go(0, 0));
        Check.due("letters(): up before left", 0, x.letters());
        x.base(0, 2);
        Check.due("go(2, 0)", 4, x.go(2, 0));
        Check.due("letters(): up before right", 1, x.letters());
        x.base(2, 0);
        Check.due("go(0, 2)", 4, x.go(0, 2));
        Check.due("letters(): down before left", 0, x.letters());
        x.base(0, 1);
        Check.due("go(2, 1)", 4, x.go(2, 1));
        Check.due("letters(): up before down", 1, x.letters());
        x.base(1, 0);
        Check.due("go(1, 2)", 4, x.go(1, 2));
        Check.due("letters(): right before left", 1, x.letters());
        Check.due("letterAt(0): right before left", 0, x.letterAt(0));
    }

    private static void goKeepsToTheLimit() {
        Tetherline x = new Tetherline(3, 3, 4);
        x.pillar(1, 1);
        x.step(1);
        x.step(1);
        x.step(2);
        x.step(2);
        Check.due("length() at the limit", 4, x.length());
        // The shorter way on round the pillar would be 2 steps, but its places are too far wound.
        Check.due("go(0, 2) has to unwind", 6, x.go(0, 2));
        Check.due("letters() unwound", 0, x.letters());
        Check.due("length() unwound", 2, x.length());
        Check.due("steps()", 10, x.steps());
        Tetherline free = new Tetherline(3, 3, 6);
        free.pillar(1, 1);
        free.go(2, 2);
        Check.due("go(0, 2) with more cable", 2, free.go(0, 2));
        Check.due("letters() with more cable", 1, free.letters());
    }

    private static void goIsRefused() {
        Tetherline x = new Tetherline(4, 3, 3);
        x.pillar(1, 1);
        x.step(2);
        int[][] off = {{-1, 0}, {0, -1}, {4, 0}, {0, 3}, {MIN, 0}, {0, MIN}, {MAX, 0}, {0, MAX}, {-1, 7}, {4, 3}};
        for (int[] s : off) {
            Check.dueThrow("go off the floor", IndexOutOfBoundsException.class, () -> x.go(s[0], s[1]));
        }
        Check.dueThrow("go to a pillar", NoSuchElementException.class, () -> x.go(1, 1));
        Check.dueThrow("go beyond the limit", NoSuchElementException.class, () -> x.go(3, 1));
        Check.dueThrow("go beyond the limit", NoSuchElementException.class, () -> x.go(2, 2));
        Check.due("steps() then", 1, x.steps());
        Check.due("row() then", 1, x.row());
        Check.due("column() then", 0, x.column());
        Check.due("go to the last square within the limit", 4, x.go(3, 0));
        Tetherline wall = new Tetherline(3, 3, 60);
        wall.pillar(1, 0);
        wall.pillar(1, 1);
        wall.pillar(1, 2);
        Check.dueThrow("go behind a wall", NoSuchElementException.class, () -> wall.go(2, 1));
        Check.due("go before a wall", 2, wall.go(0, 2));
    }

    private static void backFollowsTheCable() {
        Tetherline x = new Tetherline(5, 5, 60);
        x.step(1);
        x.step(1);
        x.step(2);
        x.step(2);
        // The cable leaves upwards first: 22, 21, 20, 10, 00.
        Check.due("back(1)", 1, x.back(1));
        Check.due("column()", 2, x.column());
        Check.due("row()", 1, x.row());
        Check.due("back(2)", 2, x.back(2));
        Check.due("column()", 1, x.column());
        Check.due("row()", 0, x.row());
        Check.due("steps()", 7, x.steps());
        Check.due("length()", 1, x.length());
        Tetherline wound = new Tetherline(3, 3, 60);
        wound.pillar(1, 1);
        for (int direction : new int[] {1, 1, 2, 2, 3, 3, 0, 0, 1, 1}) {
            wound.step(direction);
        }
        Check.due("letters() wound", 2, wound.letters());
        Check.due("back(9) along the whole winding", 9, wound.back(9));
        Check.due("column()", 1, wound.column());
        Check.due("row()", 0, wound.row());
        Check.due("letters() unwound", 0, wound.letters());
        Check.due("steps() unwound", 19, wound.steps());
    }

    private static void backStopsAtTheBase() {
        Tetherline x = new Tetherline(5, 5, 60);
        Check.due("back(1) at the base", 0, x.back(1));
        Check.due("back(60) at the base", 0, x.back(60));
        Check.due("steps()", 0, x.steps());
        x.go(3, 3);
        Check.due("back(60)", 6, x.back(60));
        Check.due("length()", 0, x.length());
        Check.due("column()", 0, x.column());
        Check.due("row()", 0, x.row());
        Check.due("steps()", 12, x.steps());
        x.base(2, 3);
        x.go(4, 4);
        Check.due("back(4)", 3, x.back(4));
        Check.due("column() at the base", 2, x.column());
        Check.due("row() at the base", 3, x.row());
        x.go(4, 4);
        Check.due("back(3)", 3, x.back(3));
        Check.due("length() at the base", 0, x.length());
    }

    private static void backIsRefused() {
        Tetherline x = new Tetherline(5, 5, 60);
        x.step(2);
        for (int steps : new int[] {0, -1, -60, 61, 62, MIN, MAX}) {
            Check.dueThrow("back(" + steps + ")", IllegalArgumentException.class, () -> x.back(steps));
        }
        Check.due("steps() then", 1, x.steps());
        Check.due("row() then", 1, x.row());
        Tetherline still = new Tetherline(5, 5, 60);
        Check.dueThrow("back(0) at the base", IllegalArgumentException.class, () -> still.back(0));
        Check.dueThrow("back(61) at the base", IllegalArgumentException.class, () -> still.back(61));
    }
}

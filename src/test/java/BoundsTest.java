import java.util.NoSuchElementException;

/** The bounds that the promises name, each with values just inside and just outside, in the order of the promises. */
public final class BoundsTest {

    private static final int MIN = Integer.MIN_VALUE;
    private static final int MAX = Integer.MAX_VALUE;
    private static final int[] ROUND = {1, 1, 2, 2, 3, 3, 0, 0};

    public static void main(String[] args) {
        numbersOfANewObject();
        newObjectHasNoPillars();
        newObjectStandsAtItsBase();
        pillarWithAndWithoutRoom();
        pillarAtTheCornersOfTheFloor();
        pillarNeedsTheBaseAndNoLetters();
        baseAtTheCornersOfTheFloor();
        baseWithAWordWithoutLetters();
        baseWhereTheBaseIs();
        stepOfEveryDirection();
        stepReturnsTheLengthThen();
        goWhereItIs();
        goToTheLastSquareThatItCan();
        goByTheFewestSteps();
        goByTheLowestDirections();
        goByMoreStepsThanTheLimit();
        backFromOneToSixty();
        backStopsAtTheBase();
        letterAtFromZeroOn();
        lengthOfTheBaseIsZero();
        slackFromTheLimitToZero();
        stepsSinceTheBase();
        tryingFromZeroToEight();
        tryingDoesNotAskForTheLimit();
        cableAtFromTheCrawlerToTheBase();
        bendsOfStraightAndBentCables();
        leastWithAndWithoutPlaces();
        missingBelowAtAndAboveTheLimit();
        wordsAtAndAboveTheLimit();
        squaresAtAndAboveTheLimit();
        Check.end("BoundsTest");
    }

    private static void walk(Tetherline x, int... directions) {
        for (int direction : directions) {
            x.step(direction);
        }
    }

    private static Tetherline pillarInTheMiddle(int limit) {
        Tetherline x = new Tetherline(3, 3, limit);
        x.pillar(1, 1);
        return x;
    }

    // ---- 1: "less than 3 counts as 3, more than 7 as 7"; "less than 1 counts as 1, more than 60 as 60"

    private static void numbersOfANewObject() {
        int[][] lines = {{MIN, 3}, {MIN + 1, 3}, {-3, 3}, {-1, 3}, {0, 3}, {1, 3}, {2, 3}, {3, 3}, {4, 4}, {5, 5},
            {6, 6}, {7, 7}, {8, 7}, {9, 7}, {60, 7}, {MAX - 1, 7}, {MAX, 7}};
        for (int[] line : lines) {
            dueLike("columns " + line[0], new Tetherline(line[0], 4, 9), new Tetherline(line[1], 4, 9));
            dueLike("rows " + line[0], new Tetherline(4, line[0], 9), new Tetherline(4, line[1], 9));
            Tetherline wide = new Tetherline(line[0], 4, 60);
            Check.due("squares() of columns " + line[0], 4 * line[1], wide.squares());
            Tetherline high = new Tetherline(4, line[0], 60);
            Check.due("squares() of rows " + line[0], 4 * line[1], high.squares());
        }
        int[][] limits = {{MIN, 1}, {MIN + 1, 1}, {-60, 1}, {-1, 1}, {0, 1}, {1, 1}, {2, 2}, {3, 3}, {58, 58},
            {59, 59}, {60, 60}, {61, 60}, {62, 60}, {120, 60}, {MAX - 1, 60}, {MAX, 60}};
        for (int[] limit : limits) {
            dueLike("limit " + limit[0], new Tetherline(5, 4, limit[0]), new Tetherline(5, 4, limit[1]));
            Check.due("slack() of limit " + limit[0], limit[1], new Tetherline(5, 4, limit[0]).slack());
        }
        dueLike("all too small", new Tetherline(MIN, MIN, MIN), new Tetherline(3, 3, 1));
        dueLike("all too large", new Tetherline(MAX, MAX, MAX), new Tetherline(7, 7, 60));
        dueLike("small, large, small", new Tetherline(2, 8, 0), new Tetherline(3, 7, 1));
        dueLike("large, small, large", new Tetherline(8, 2, 61), new Tetherline(7, 3, 60));
    }

    private static void dueLike(String what, Tetherline x, Tetherline plain) {
        Check.dueText("a new object of " + what, State.of(plain), State.of(x));
        for (Tetherline one : new Tetherline[] {x, plain}) {
            one.pillar(1, 1);
            one.step(1);
            one.back(60);
        }
        Check.dueText("an object used, of " + what, State.of(plain), State.of(x));
    }

    /** "A floor without pillars": every square can be come to, straight away, and with no letters. */
    private static void newObjectHasNoPillars() {
        for (int side = 3; side <= 7; side++) {
            Tetherline x = new Tetherline(side, side, 60);
            Check.due("squares() of a new object", side * side, x.squares());
            Check.due("least() of the last square", 2 * (side - 1), x.least(side - 1, side - 1));
            Check.due("words() of the last square", 1, x.words(side - 1, side - 1));
            Check.due("the first pillar of a new object", 0, x.pillar(side - 1, side - 1));
        }
    }

    /** "the base and the crawler are at column 0 and row 0" */
    private static void newObjectStandsAtItsBase() {
        Tetherline x = new Tetherline(5, 5, 60);
        Check.due("column() of a new object", 0, x.column());
        Check.due("row() of a new object", 0, x.row());
        Check.due("least() of the base", 0, x.least(0, 0));
        Check.dueThrow("pillar on the base", IllegalStateException.class, () -> x.pillar(0, 0));
        Check.due("back(60) of a new object", 0, x.back(60));
        Check.due("go to the base", 0, x.go(0, 0));
    }

    // ---- 2: pillar

    /** "if there are 3 pillars": a third one is set, a fourth is not, wherever it should stand. */
    private static void pillarWithAndWithoutRoom() {
        Tetherline x = new Tetherline(5, 5, 60);
        int[][] squares = {{4, 4}, {1, 0}, {2, 3}};
        for (int number = 0; number < 3; number++) {
            Check.due("pillar " + number, number, x.pillar(squares[number][0], squares[number][1]));
        }
        for (int column = 0; column < 5; column++) {
            for (int row = 0; row < 5; row++) {
                int c = column;
                int r = row;
                Check.dueThrow("a fourth pillar", IllegalStateException.class, () -> x.pillar(c, r));
            }
        }
        Check.due("squares() with three pillars", 22, x.squares());
        Check.dueThrow("a fourth pillar off the floor", IndexOutOfBoundsException.class, () -> x.pillar(5, 5));
    }

    private static void pillarAtTheCornersOfTheFloor() {
        for (int columns = 3; columns <= 7; columns++) {
            for (int rows = 3; rows <= 7; rows++) {
                Tetherline x = new Tetherline(columns, rows, 60);
                int right = columns - 1;
                int low = rows - 1;
                Check.dueThrow("pillar right of the floor", IndexOutOfBoundsException.class,
                        () -> x.pillar(right + 1, 0));
                Check.dueThrow("pillar below the floor", IndexOutOfBoundsException.class, () -> x.pillar(0, low + 1));
                Check.due("pillar at the lower right", 0, x.pillar(right, low));
                Check.due("pillar at the upper right", 1, x.pillar(right, 0));
                Check.due("pillar at the lower left", 2, x.pillar(0, low));
                Check.due("squares() less three corners", columns * rows - 3, x.squares());
            }
        }
    }

    /** "the crawler is not at the base with a word without letters": either alone is not enough. */
    private static void pillarNeedsTheBaseAndNoLetters() {
        Tetherline x = new Tetherline(4, 4, 60);
        x.pillar(1, 1);
        x.step(2);
        Check.due("letters() away", 0, x.letters());
        Check.dueThrow("away, without letters", IllegalStateException.class, () -> x.pillar(3, 3));
        walk(x, 0);
        walk(x, ROUND);
        Check.due("letters() at the base", 1, x.letters());
        Check.dueThrow("at the base, with a letter", IllegalStateException.class, () -> x.pillar(3, 3));
        walk(x, 2, 2, 1, 1, 0, 0);
        Check.due("letters() unwound with half a round", 1, x.letters());
        Check.dueThrow("away, with a letter", IllegalStateException.class, () -> x.pillar(3, 3));
        walk(x, 3, 3);
        Check.due("letters() unwound", 0, x.letters());
        Check.due("steps() before the pillar", 18, x.steps());
        Check.due("at the base, without letters", 1, x.pillar(3, 3));
        Check.due("steps() are kept", 18, x.steps());
    }

    // ---- 3: base

    private static void baseAtTheCornersOfTheFloor() {
        for (int columns = 3; columns <= 7; columns++) {
            for (int rows = 3; rows <= 7; rows++) {
                Tetherline x = new Tetherline(columns, rows, 60);
                int right = columns - 1;
                int low = rows - 1;
                Check.dueThrowOf("base right of the floor", IndexOutOfBoundsException.class, () -> x.base(right + 1, 0));
                Check.dueThrowOf("base below the floor", IndexOutOfBoundsException.class, () -> x.base(0, low + 1));
                int[][] corners = {{right, low}, {right, 0}, {0, low}, {0, 0}};
                for (int[] corner : corners) {
                    x.base(corner[0], corner[1]);
                    Check.due("column() at a corner", corner[0], x.column());
                    Check.due("row() at a corner", corner[1], x.row());
                    Check.due("least() of the corner across", right + low,
                            x.least(right - corner[0], low - corner[1]));
                }
            }
        }
    }

    /** "puts the crawler there, with a word without letters": from wherever it is, with whatever word. */
    private static void baseWithAWordWithoutLetters() {
        Tetherline x = pillarInTheMiddle(60);
        for (int round = 0; round < 3; round++) {
            walk(x, ROUND);
        }
        Check.due("letters() before base()", 3, x.letters());
        x.base(0, 0);
        Check.due("letters() behind base()", 0, x.letters());
        Check.due("length() behind base()", 0, x.length());
        Check.due("steps() behind base()", 0, x.steps());
        Check.dueThrow("letterAt(0) behind base()", IndexOutOfBoundsException.class, () -> x.letterAt(0));
        Check.due("pillar behind base()", 1, x.pillar(2, 2));
        x.go(2, 0);
        x.base(2, 1);
        Check.due("least() of the new base", 0, x.least(2, 1));
        Check.due("least() of the old base", 3, x.least(0, 0));
        Check.due("pillar on the old base", 2, x.pillar(0, 0));
    }

    private static void baseWhereTheBaseIs() {
        Tetherline x = pillarInTheMiddle(60);
        x.base(0, 0);
        Check.due("column()", 0, x.column());
        Check.due("pillar() then", 1, x.pillar(2, 2));
        x.base(0, 0);
        Check.dueThrowOf("base on the second pillar", IllegalStateException.class, () -> x.base(2, 2));
        Check.dueThrowOf("base on the first pillar", IllegalStateException.class, () -> x.base(1, 1));
        Check.due("least() of the base", 0, x.least(0, 0));
    }

    // ---- 4: step

    private static void stepOfEveryDirection() {
        Tetherline x = new Tetherline(3, 3, 60);
        x.base(1, 1);
        Check.dueThrow("step(-1)", IllegalArgumentException.class, () -> x.step(-1));
        Check.due("step(0)", 1, x.step(0));
        Check.due("row() behind step(0)", 0, x.row());
        Check.due("step(2)", 0, x.step(2));
        Check.due("row() behind step(2)", 1, x.row());
        Check.due("step(1)", 1, x.step(1));
        Check.due("column() behind step(1)", 2, x.column());
        Check.due("step(3)", 0, x.step(3));
        Check.due("column() behind step(3)", 1, x.column());
        Check.dueThrow("step(4)", IllegalArgumentException.class, () -> x.step(4));
        Check.due("steps()", 4, x.steps());
    }

    /** "the length of its place then": 0 back at the base, and longer once it is wound. */
    private static void stepReturnsTheLengthThen() {
        Tetherline x = pillarInTheMiddle(60);
        int[] there = {1, 1, 2, 2, 3, 3, 0, 0, 1, 1, 2, 2, 3, 3, 0, 0, 1, 1, 2, 2, 3, 3, 0, 0};
        for (int made = 0; made < there.length; made++) {
            Check.due("the length wound by " + (made + 1), made + 1, x.step(there[made]));
        }
        int[] home = {2, 2, 1, 1, 0, 0, 3, 3};
        for (int made = 23; made >= 0; made--) {
            Check.due("the length unwound to " + made, made, x.step(home[(23 - made) % 8]));
        }
    }

    // ---- 5: go

    /** "0 if it is there": with any word. */
    private static void goWhereItIs() {
        Tetherline x = pillarInTheMiddle(9);
        Check.due("go(0, 0) at the base", 0, x.go(0, 0));
        walk(x, ROUND);
        Check.due("go(0, 0) wound", 0, x.go(0, 0));
        Check.due("letters() are kept", 1, x.letters());
        Check.due("length() is kept", 8, x.length());
        Check.due("steps() are kept", 8, x.steps());
        x.step(1);
        Check.due("go(1, 0) at the limit", 0, x.go(1, 0));
        Check.due("slack() at the limit", 0, x.slack());
    }

    private static void goToTheLastSquareThatItCan() {
        for (int limit = 1; limit <= 12; limit++) {
            Tetherline x = new Tetherline(7, 7, limit);
            int column = Math.min(limit, 6);
            int row = limit - column;
            if (row < 6) {
                Check.dueThrow("go above limit " + limit, NoSuchElementException.class, () -> x.go(column, row + 1));
            }
            Check.due("steps() of a refused way", 0, x.steps());
            Check.due("go at limit " + limit, limit, x.go(column, row));
            Check.due("slack() then", 0, x.slack());
            Check.due("steps() then", limit, x.steps());
        }
    }

    /** "the fewest steps that it can make": ways whose places are above the limit are none. */
    private static void goByTheFewestSteps() {
        Tetherline tight = pillarInTheMiddle(5);
        walk(tight, 1, 1, 2, 2, 3);
        Check.due("go(0, 2) where the next step is above the limit", 7, tight.go(0, 2));
        Check.due("letters() by the way back", 0, tight.letters());
        Tetherline loose = pillarInTheMiddle(6);
        walk(loose, 1, 1, 2, 2, 3);
        Check.due("go(0, 2) where the next step is at the limit", 1, loose.go(0, 2));
        Check.due("letters() by the next step", 1, loose.letters());
        Tetherline even = pillarInTheMiddle(8);
        walk(even, ROUND);
        Check.due("go(1, 0) from the limit has to unwind", 7, even.go(1, 0));
        Check.due("letters() unwound", 0, even.letters());
        Check.due("length() unwound", 1, even.length());
    }

    /** "by that with the lower direction where they first differ": both ways round the pillar are of 4 steps. */
    private static void goByTheLowestDirections() {
        dueWordOfTheWay("up before down, to the right", 0, 1, 2, 1, 0);
        dueWordOfTheWay("up before down, to the left", 2, 1, 0, 1, 1);
        dueWordOfTheWay("right before left, down", 1, 0, 1, 2, 0);
        dueWordOfTheWay("right before left, up", 1, 2, 1, 0, 1);
        dueWordOfTheWay("right before down", 0, 0, 2, 2, 0);
        dueWordOfTheWay("up before left", 2, 2, 0, 0, 1);
        dueWordOfTheWay("up before right", 0, 2, 2, 0, 0);
        // To the left below the pillar there is no letter.
        dueWordOfTheWay("down before left", 2, 0, 0, 2);
    }

    private static void dueWordOfTheWay(String which, int column, int row, int goalColumn, int goalRow, int... word) {
        Tetherline x = pillarInTheMiddle(60);
        x.base(column, row);
        Check.due("go by " + which, 4, x.go(goalColumn, goalRow));
        Check.due("letters() by " + which, word.length, x.letters());
        for (int index = 0; index < word.length && index < x.letters(); index++) {
            Check.due("letterAt(" + index + ") by " + which, word[index], x.letterAt(index));
        }
    }

    /** The winding has to be undone first, and then it goes round the other way. */
    private static void goByMoreStepsThanTheLimit() {
        Tetherline x = pillarInTheMiddle(4);
        walk(x, 1, 1, 2, 2);
        Check.due("go(1, 2) by the base at limit 4", 7, x.go(1, 2));
        Check.due("letters() then", 0, x.letters());
        Check.due("length() then", 3, x.length());
        Check.due("steps() then", 11, x.steps());
        Tetherline twice = pillarInTheMiddle(12);
        walk(twice, ROUND);
        walk(twice, 1, 1, 2, 2);
        Check.due("go(1, 2) by the last round alone", 7, twice.go(1, 2));
        Check.due("letters() then", 1, twice.letters());
        Check.due("length() then", 5, twice.length());
        Check.due("steps() then", 19, twice.steps());
    }

    // ---- 6: back

    private static final String FAR = "222222" + "111100000011223333222233" + "001111000011223333222233" + "000000";

    private static Tetherline farOut() {
        Tetherline x = new Tetherline(7, 7, 60);
        x.pillar(1, 5);
        x.pillar(5, 1);
        for (int i = 0; i < FAR.length(); i++) {
            x.step(FAR.charAt(i) - '0');
        }
        Check.due("length() far out", 60, x.length());
        return x;
    }

    /** "1 to 60", on a cable of 60. */
    private static void backFromOneToSixty() {
        for (int steps : new int[] {1, 2, 30, 58, 59, 60}) {
            Tetherline x = farOut();
            Check.due("back(" + steps + ")", steps, x.back(steps));
            Check.due("length() behind back(" + steps + ")", 60 - steps, x.length());
            Check.due("steps() behind back(" + steps + ")", 60 + steps, x.steps());
        }
        Tetherline x = farOut();
        Check.dueThrow("back(0)", IllegalArgumentException.class, () -> x.back(0));
        Check.dueThrow("back(61)", IllegalArgumentException.class, () -> x.back(61));
        Check.due("length() behind refused ways back", 60, x.length());
        for (int made = 1; made <= 60; made++) {
            int square = x.cableAt(1);
            Check.due("back(1)", 1, x.back(1));
            Check.due("the square behind back(1)", square, 10 * x.column() + x.row());
        }
        Check.due("back(1) at the base", 0, x.back(1));
        Check.due("letters() at the base", 0, x.letters());
    }

    private static void backStopsAtTheBase() {
        for (int length = 0; length <= 4; length++) {
            for (int steps = 1; steps <= 6; steps++) {
                Tetherline x = new Tetherline(5, 5, 60);
                x.base(0, 2);
                x.go(length, 2);
                int made = Math.min(length, steps);
                String call = "back(" + steps + ") from length " + length;
                Check.due(call, made, x.back(steps));
                Check.due("column() behind " + call, length - made, x.column());
                Check.due("row() behind " + call, 2, x.row());
                Check.due("steps() behind " + call, length + made, x.steps());
            }
        }
    }

    // ---- 10: letterAt

    /** "from 0 on", "if the word has not so many": for words of 0 to 3 letters. */
    private static void letterAtFromZeroOn() {
        Tetherline x = new Tetherline(7, 3, 60);
        x.pillar(5, 1);
        x.pillar(1, 1);
        x.pillar(3, 1);
        int[] word = {2, 4, 0};
        for (int letters = 0; letters <= 3; letters++) {
            Check.due("letters()", letters, x.letters());
            for (int index = 0; index < letters; index++) {
                Check.due("letterAt(" + index + ") of " + letters, word[index], x.letterAt(index));
            }
            for (int index : new int[] {MIN, -1, letters, letters + 1, MAX}) {
                Check.dueThrow("letterAt(" + index + ") of " + letters, IndexOutOfBoundsException.class,
                        () -> x.letterAt(index));
            }
            if (letters < 3) {
                walk(x, 1, 1);
            }
        }
    }

    // ---- 11 to 13: length, slack, steps

    private static void lengthOfTheBaseIsZero() {
        Tetherline x = pillarInTheMiddle(60);
        Check.due("length() at the base", 0, x.length());
        walk(x, ROUND);
        Check.due("length() at the base's square with a letter", 8, x.length());
        walk(x, 2, 2, 1, 1, 0, 0, 3, 3);
        Check.due("length() at the base again", 0, x.length());
    }

    private static void slackFromTheLimitToZero() {
        for (int limit : new int[] {1, 2, 6, 12}) {
            Tetherline x = new Tetherline(7, 7, limit);
            for (int made = 0; made < limit; made++) {
                Check.due("slack() at limit " + limit, limit - made, x.slack());
                x.step(made < 6 ? 1 : 2);
            }
            Check.due("slack() used up at limit " + limit, 0, x.slack());
        }
        Check.due("slack() of the longest cable, used up", 0, farOut().slack());
    }

    private static void stepsSinceTheBase() {
        Tetherline x = new Tetherline(5, 5, 4);
        Check.due("steps() of a new object", 0, x.steps());
        walk(x, 1, 3, 1, 3);
        Check.due("steps() to and fro", 4, x.steps());
        Check.due("length() to and fro", 0, x.length());
        Check.dueThrow("a step out of the floor", IllegalStateException.class, () -> x.step(3));
        x.go(2, 2);
        Check.due("steps() with a way", 8, x.steps());
        x.back(3);
        Check.due("steps() with a way back", 11, x.steps());
        x.back(60);
        Check.due("steps() with a way back that stops", 12, x.steps());
        x.base(0, 0);
        Check.due("steps() put at the same base", 0, x.steps());
    }

    // ---- 14: lengthByTrying, "0 to 8", "NONE if no walk with so many steps or fewer leads there"

    private static void tryingFromZeroToEight() {
        for (int length = 0; length <= 10; length++) {
            Tetherline x = new Tetherline(7, 7, 60);
            x.go(Math.min(length, 5), length - Math.min(length, 5));
            for (int most = 0; most <= 8; most++) {
                Check.due("lengthByTrying(" + most + ") at length " + length, length <= most ? length : -1,
                        x.lengthByTrying(most));
            }
            Check.dueThrow("lengthByTrying(-1)", IllegalArgumentException.class, () -> x.lengthByTrying(-1));
            Check.dueThrow("lengthByTrying(9)", IllegalArgumentException.class, () -> x.lengthByTrying(9));
        }
        Tetherline wound = pillarInTheMiddle(60);
        for (int made = 1; made <= 9; made++) {
            wound.step(ROUND[(made - 1) % 8]);
            Check.due("lengthByTrying(8) wound by " + made, made <= 8 ? made : -1, wound.lengthByTrying(8));
            Check.due("lengthByTrying(" + (made - 1) + ") wound by " + made, -1, wound.lengthByTrying(made - 1));
        }
    }

    private static void tryingDoesNotAskForTheLimit() {
        Tetherline x = new Tetherline(3, 3, 1);
        Check.due("lengthByTrying(8) at limit 1 at the base", 0, x.lengthByTrying(8));
        x.step(1);
        Check.due("lengthByTrying(0) at limit 1", -1, x.lengthByTrying(0));
        Check.due("lengthByTrying(1) at limit 1", 1, x.lengthByTrying(1));
        Check.due("lengthByTrying(8) at limit 1", 1, x.lengthByTrying(8));
    }

    // ---- 15 and 16: cableAt, bends

    /** "0 for that at which the crawler is, and so on towards the base", 10 times the column and the row. */
    private static void cableAtFromTheCrawlerToTheBase() {
        Tetherline x = new Tetherline(7, 7, 60);
        x.base(6, 6);
        Check.due("cableAt(0) at the base", 66, x.cableAt(0));
        Check.dueThrow("cableAt(1) at the base", IndexOutOfBoundsException.class, () -> x.cableAt(1));
        for (int length = 1; length <= 6; length++) {
            x.step(0);
            int last = length;
            Check.due("cableAt(0)", 66 - length, x.cableAt(0));
            Check.due("cableAt(" + length + ")", 66, x.cableAt(length));
            Check.dueThrow("cableAt(" + (length + 1) + ")", IndexOutOfBoundsException.class,
                    () -> x.cableAt(last + 1));
            Check.dueThrow("cableAt(-1)", IndexOutOfBoundsException.class, () -> x.cableAt(-1));
        }
        Tetherline far = farOut();
        Check.due("cableAt(60) far out", 0, far.cableAt(60));
        Check.dueThrow("cableAt(61) far out", IndexOutOfBoundsException.class, () -> far.cableAt(61));
    }

    private static void bendsOfStraightAndBentCables() {
        Tetherline x = new Tetherline(4, 4, 60);
        Check.due("bends() of no cable", 0, x.bends());
        x.step(1);
        Check.due("bends() of one step", 0, x.bends());
        x.step(1);
        Check.due("bends() of two steps in line", 0, x.bends());
        x.step(2);
        Check.due("bends() of three steps with a corner", 1, x.bends());
        x.base(0, 0);
        walk(x, 1, 2);
        Check.due("bends() of two steps with a corner", 1, x.bends());
        walk(x, 1, 2, 1, 2);
        Check.due("bends() of a walk in stairs: the cable is taut", 1, x.bends());
        Tetherline wound = pillarInTheMiddle(60);
        for (int round = 0; round < 3; round++) {
            walk(wound, ROUND);
        }
        Check.due("bends() of three rounds", 11, wound.bends());
        // Where two ways are as short, the cable goes up before right and down before left, as that walk came.
        Check.due("bends() far out", 16, farOut().bends());
    }

    // ---- 17 to 20: least, missing, words, squares

    private static void leastWithAndWithoutPlaces() {
        Tetherline x = new Tetherline(5, 3, 1);
        x.pillar(2, 0);
        x.pillar(2, 1);
        Check.due("least() of the base", 0, x.least(0, 0));
        Check.due("least() beside it", 1, x.least(1, 0));
        Check.due("least() above the limit, round the end of a wall", 7, x.least(3, 0));
        Check.due("least() of a pillar", -1, x.least(2, 0));
        x.pillar(2, 2);
        Check.due("least() behind a wall", -1, x.least(3, 0));
        Check.due("least() of the wall's end", -1, x.least(2, 2));
    }

    private static void missingBelowAtAndAboveTheLimit() {
        for (int limit = 1; limit <= 13; limit++) {
            Tetherline x = new Tetherline(7, 7, limit);
            for (int column = 0; column < 7; column++) {
                for (int row = 0; row < 7; row++) {
                    int lacks = Math.max(0, column + row - limit);
                    Check.due("missing(" + column + ", " + row + ") at limit " + limit, lacks, x.missing(column, row));
                }
            }
        }
        Tetherline away = new Tetherline(7, 7, 5);
        walk(away, 1, 1, 1, 2, 2);
        Check.due("slack() away", 0, away.slack());
        Check.due("missing() at the limit, from away", 0, away.missing(0, 5));
        Check.due("missing() above the limit, from away", 1, away.missing(3, 3));
        Check.due("missing() where the crawler is", 0, away.missing(3, 2));
        Tetherline x = new Tetherline(3, 3, 60);
        x.pillar(1, 2);
        Check.due("missing() of a pillar", -1, x.missing(1, 2));
        x.pillar(2, 1);
        Check.due("missing() of a corner closed off", -1, x.missing(2, 2));
        Check.due("missing() of the base", 0, x.missing(0, 0));
    }

    /** "whose length is not above the limit": a round about the pillar is 8 steps, so words come at 8, 16 and 24. */
    private static void wordsAtAndAboveTheLimit() {
        for (int limit = 1; limit <= 26; limit++) {
            Tetherline x = pillarInTheMiddle(limit);
            Check.due("words() of the base at limit " + limit, 1 + 2 * Math.min(3, limit / 8), x.words(0, 0));
            // The one way round it is 1, 9, 17 and 25 steps, the other way round 7, 15 and 23.
            int due = Math.min(4, (limit + 7) / 8) + Math.min(3, (limit + 1) / 8);
            Check.due("words() beside the base at limit " + limit, due, x.words(1, 0));
            Check.due("words() of the pillar at limit " + limit, 0, x.words(1, 1));
        }
    }

    private static void squaresAtAndAboveTheLimit() {
        int[] within = {0, 3, 6, 8, 9, 9};
        for (int limit = 1; limit <= 5; limit++) {
            Tetherline x = new Tetherline(3, 3, limit);
            Check.due("squares() at limit " + limit, within[limit], x.squares());
            x.pillar(2, 2);
            Check.due("squares() without a pillar's, at limit " + limit, Math.min(8, within[limit]), x.squares());
        }
        Tetherline closed = new Tetherline(3, 3, 60);
        closed.pillar(1, 0);
        closed.pillar(0, 1);
        Check.due("squares() of a base closed off", 1, closed.squares());
    }
}

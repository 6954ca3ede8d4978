/** Promises 7 to 16: column, row, letters, letterAt, length, slack, steps, lengthByTrying, cableAt and bends. */
public final class PlaceTest {

    private static final int MIN = Integer.MIN_VALUE;
    private static final int MAX = Integer.MAX_VALUE;
    private static final int[] ROUND = {1, 1, 2, 2, 3, 3, 0, 0};

    public static void main(String[] args) {
        squareOfTheCrawler();
        lettersComeAboveAPillarAlone();
        lettersAndTheirOpposites();
        lettersOfAColumnOfPillars();
        lettersGoWithTheLastOneAlone();
        letterAtIsRefused();
        lengthOfTheShortestWalk();
        slackIsWhatIsLeft();
        stepsAreCounted();
        tryingFindsTheLength();
        tryingRound();
        tryingIsRefused();
        cableOfAWinding();
        cableTakesTheLowestDirections();
        cableIsRefused();
        bendsAreCounted();
        Check.end("PlaceTest");
    }

    private static void walk(Tetherline x, int... directions) {
        for (int direction : directions) {
            x.step(direction);
        }
    }

    private static void dueWord(String where, Tetherline x, int... word) {
        Check.due("letters() " + where, word.length, x.letters());
        for (int i = 0; i < word.length && i < x.letters(); i++) {
            Check.due("letterAt(" + i + ") " + where, word[i], x.letterAt(i));
        }
        Check.dueThrow("letterAt(" + word.length + ") " + where, IndexOutOfBoundsException.class,
                () -> x.letterAt(word.length));
    }

    private static void squareOfTheCrawler() {
        Tetherline x = new Tetherline(4, 7, 60);
        walk(x, 1, 1, 2);
        Check.due("column()", 2, x.column());
        Check.due("row()", 1, x.row());
        x.go(3, 6);
        Check.due("column()", 3, x.column());
        Check.due("row()", 6, x.row());
        x.base(1, 5);
        Check.due("column()", 1, x.column());
        Check.due("row()", 5, x.row());
    }

    private static void lettersComeAboveAPillarAlone() {
        for (int row = 0; row < 5; row++) {
            for (int column = 0; column < 4; column++) {
                Tetherline x = new Tetherline(5, 5, 60);
                x.base(column, row);
                if (column == 2 && row == 2 || column == 1 && row == 2) {
                    continue;
                }
                x.pillar(2, 2);
                x.step(1);
                int due = column == 2 && row < 2 ? 1 : 0;
                Check.due("letters() to the right from " + column + " " + row, due, x.letters());
            }
            for (int column = 1; column < 5; column++) {
                Tetherline x = new Tetherline(5, 5, 60);
                x.base(column, row);
                if (column == 2 && row == 2 || column == 3 && row == 2) {
                    continue;
                }
                x.pillar(2, 2);
                x.step(3);
                int due = column == 3 && row < 2 ? 1 : 0;
                Check.due("letters() to the left from " + column + " " + row, due, x.letters());
            }
        }
    }

    private static void lettersAndTheirOpposites() {
        Tetherline x = new Tetherline(6, 3, 60);
        x.pillar(3, 1);
        x.pillar(1, 1);
        x.step(1);
        dueWord("before the first pillar's line", x);
        x.step(1);
        dueWord("behind a letter", x, 2);
        walk(x, 1, 1);
        dueWord("behind two letters", x, 2, 0);
        x.step(3);
        dueWord("behind an opposite", x, 2);
        walk(x, 3, 3);
        dueWord("behind both opposites", x);
        walk(x, 1, 1, 1, 2, 2, 3, 3, 3, 3, 0, 0);
        dueWord("back at the left by a way below, which has no letters", x, 2, 0);
        walk(x, 2, 2, 1, 1, 0, 0);
        dueWord("between the pillars from below", x, 2, 0);
        x.step(3);
        dueWord("to the left with another's letter at the end", x, 2, 0, 3);
    }

    private static void lettersOfAColumnOfPillars() {
        Tetherline x = new Tetherline(3, 5, 60);
        x.pillar(1, 3);
        x.pillar(1, 1);
        x.pillar(1, 2);
        walk(x, 1, 1);
        dueWord("above all three to the right", x, 2, 4, 0);
        walk(x, 3);
        dueWord("and back to the left", x);
        x.base(2, 0);
        walk(x, 3);
        dueWord("above all three to the left", x, 1, 5, 3);
        x.base(1, 4);
        walk(x, 1);
        dueWord("below all three", x);
        Tetherline lowest = new Tetherline(5, 4, 60);
        lowest.pillar(2, 3);
        lowest.base(2, 2);
        walk(lowest, 1);
        dueWord("above the lowest row to the right", lowest, 0);
        walk(lowest, 3);
        dueWord("and back to the left", lowest);
        lowest.base(3, 2);
        walk(lowest, 3);
        dueWord("above the lowest row to the left", lowest, 1);
        Tetherline highest = new Tetherline(5, 7, 60);
        highest.pillar(3, 0);
        highest.base(2, 6);
        walk(highest, 1, 3);
        dueWord("below the uppermost row", highest);
        highest.base(3, 3);
        walk(highest, 3);
        dueWord("below the uppermost row to the left", highest);
        highest.base(2, 3);
        walk(highest, 1);
        dueWord("below the uppermost row to the right", highest);
    }

    private static void lettersGoWithTheLastOneAlone() {
        Tetherline x = new Tetherline(4, 5, 60);
        x.pillar(1, 3);
        x.pillar(1, 1);
        x.base(1, 0);
        // Round the upper pillar alone: to the left above both, to the right between them.
        walk(x, 1);
        dueWord("above both", x, 2, 0);
        walk(x, 2, 2);
        walk(x, 3);
        dueWord("between them to the left", x, 2);
        walk(x, 3, 0, 0);
        walk(x, 1);
        dueWord("before the second time", x, 2);
        walk(x, 1);
        dueWord("above both again", x, 2, 2, 0);
        walk(x, 2, 2, 3);
        dueWord("between them again", x, 2, 2);
        walk(x, 1);
        dueWord("between them to the right", x, 2, 2, 0);
        walk(x, 2, 2, 3);
        dueWord("below both, without letters", x, 2, 2, 0);
        walk(x, 3, 0, 0);
        dueWord("left of both", x, 2, 2, 0);
        // Between them to the right again would be 2 2 0 0.
        x.step(1);
        Check.dueThrow("a fourth letter", IllegalStateException.class, () -> x.step(1));
        dueWord("then", x, 2, 2, 0);
    }

    private static void letterAtIsRefused() {
        Tetherline x = new Tetherline(3, 3, 60);
        x.pillar(1, 1);
        int[] refused = {0, 1, 2, 3, -1, MIN, MAX};
        for (int index : refused) {
            Check.dueThrow("letterAt(" + index + ") of no letters", IndexOutOfBoundsException.class,
                    () -> x.letterAt(index));
        }
        walk(x, ROUND);
        walk(x, ROUND);
        walk(x, ROUND);
        dueWord("wound three times", x, 0, 0, 0);
        for (int index : new int[] {3, 4, -1, MIN, MAX}) {
            Check.dueThrow("letterAt(" + index + ") of three", IndexOutOfBoundsException.class,
                    () -> x.letterAt(index));
        }
    }

    private static void lengthOfTheShortestWalk() {
        Tetherline x = new Tetherline(5, 5, 60);
        x.pillar(2, 2);
        Check.due("length() at the base", 0, x.length());
        walk(x, 2, 1, 0, 1, 1);
        Check.due("length() of a detour", 3, x.length());
        Check.due("steps() of a detour", 5, x.steps());
        walk(x, 2, 2, 2, 3, 3, 3);
        Check.due("length() round the pillar", 9, x.length());
        Check.due("least() there", 3, x.least(0, 3));
        walk(x, 0, 0, 0);
        Check.due("length() at the base's square, wound", 12, x.length());
    }

    private static void slackIsWhatIsLeft() {
        Tetherline x = new Tetherline(5, 5, 9);
        x.pillar(2, 2);
        Check.due("slack() at the base", 9, x.slack());
        walk(x, 1, 1, 1);
        Check.due("slack()", 6, x.slack());
        walk(x, 2, 2, 2, 3, 3, 3);
        Check.due("slack() at the limit", 0, x.slack());
        x.back(4);
        Check.due("slack() behind back(4)", 4, x.slack());
    }

    private static void stepsAreCounted() {
        Tetherline x = new Tetherline(5, 5, 8);
        Check.due("steps()", 0, x.steps());
        x.step(1);
        x.go(3, 3);
        Check.due("steps() behind step and go", 6, x.steps());
        x.back(2);
        Check.due("steps() behind back", 8, x.steps());
        Check.dueThrow("a step refused", IllegalArgumentException.class, () -> x.step(7));
        Check.dueThrow("a way back refused", IllegalArgumentException.class, () -> x.back(0));
        Check.dueThrow("a goal refused", IndexOutOfBoundsException.class, () -> x.go(5, 0));
        Check.due("steps() behind refusals", 8, x.steps());
        x.go(x.column(), x.row());
        Check.due("steps() behind going nowhere", 8, x.steps());
        x.base(3, 3);
        Check.due("steps() behind base", 0, x.steps());
    }

    private static void tryingFindsTheLength() {
        Tetherline x = new Tetherline(7, 7, 60);
        for (int most = 0; most <= 8; most++) {
            Check.due("lengthByTrying(" + most + ") at the base", 0, x.lengthByTrying(most));
        }
        x.base(3, 3);
        x.pillar(3, 4);
        walk(x, 1, 2, 2, 3, 2);
        for (int most = 0; most <= 8; most++) {
            Check.due("lengthByTrying(" + most + ") at length 5", most < 5 ? -1 : 5, x.lengthByTrying(most));
        }
        Check.due("length()", 5, x.length());
        Check.due("steps()", 5, x.steps());
        walk(x, 3, 3, 3);
        Check.due("lengthByTrying(7) at length 8", -1, x.lengthByTrying(7));
        Check.due("lengthByTrying(8) at length 8", 8, x.lengthByTrying(8));
        walk(x, 0, 0, 0);
        Check.due("length() of 9", 9, x.length());
        Check.due("lengthByTrying(8) at length 9", -1, x.lengthByTrying(8));
    }

    private static void tryingRound() {
        Tetherline x = new Tetherline(3, 3, 60);
        x.pillar(1, 1);
        walk(x, ROUND);
        for (int most = 0; most < 8; most++) {
            Check.due("lengthByTrying(" + most + ") wound once", -1, x.lengthByTrying(most));
        }
        Check.due("lengthByTrying(8) wound once", 8, x.lengthByTrying(8));
        walk(x, ROUND);
        Check.due("lengthByTrying(8) wound twice", -1, x.lengthByTrying(8));
        x.base(0, 0);
        walk(x, 2, 2, 1, 1, 0, 0, 3);
        Check.due("lengthByTrying(6) the other way round", -1, x.lengthByTrying(6));
        Check.due("lengthByTrying(7) the other way round", 7, x.lengthByTrying(7));
        Check.due("lengthByTrying(8) the other way round", 7, x.lengthByTrying(8));
    }

    private static void tryingIsRefused() {
        Tetherline x = new Tetherline(3, 3, 60);
        for (int most : new int[] {-1, -2, 9, 10, MIN, MAX}) {
            Check.dueThrow("lengthByTrying(" + most + ")", IllegalArgumentException.class,
                    () -> x.lengthByTrying(most));
        }
    }

    private static void dueCable(String where, Tetherline x, int... squares) {
        Check.due("length() of the cable " + where, squares.length - 1, x.length());
        for (int i = 0; i < squares.length && i <= x.length(); i++) {
            Check.due("cableAt(" + i + ") " + where, squares[i], x.cableAt(i));
        }
        Check.dueThrow("cableAt() behind the base " + where, IndexOutOfBoundsException.class,
                () -> x.cableAt(squares.length));
    }

    private static void cableOfAWinding() {
        Tetherline x = new Tetherline(3, 3, 60);
        x.pillar(1, 1);
        dueCable("at the base", x, 0);
        walk(x, ROUND);
        dueCable("wound once", x, 0, 1, 2, 12, 22, 21, 20, 10, 0);
        walk(x, 1, 1, 2);
        dueCable("wound further", x, 21, 20, 10, 0, 1, 2, 12, 22, 21, 20, 10, 0);
        x.base(2, 1);
        dueCable("at the new base", x, 21);
    }

    private static void cableTakesTheLowestDirections() {
        Tetherline x = new Tetherline(4, 4, 60);
        walk(x, 2, 2, 1, 1);
        dueCable("up before left", x, 22, 21, 20, 10, 0);
        x.base(3, 3);
        walk(x, 0, 0, 3, 3);
        dueCable("right before down", x, 11, 21, 31, 32, 33);
        x.base(0, 3);
        walk(x, 0, 0, 1, 1);
        dueCable("down before left", x, 21, 22, 23, 13, 3);
        x.base(3, 0);
        walk(x, 2, 2, 3, 3);
        dueCable("up before right", x, 12, 11, 10, 20, 30);
    }

    private static void cableIsRefused() {
        Tetherline x = new Tetherline(4, 4, 60);
        for (int index : new int[] {1, 2, -1, MIN, MAX}) {
            Check.dueThrow("cableAt(" + index + ") at the base", IndexOutOfBoundsException.class,
                    () -> x.cableAt(index));
        }
        walk(x, 1, 1, 1, 2, 2, 2);
        Check.due("cableAt(6)", 0, x.cableAt(6));
        for (int index : new int[] {7, 8, 60, 61, -1, MIN, MAX}) {
            Check.dueThrow("cableAt(" + index + ") of length 6", IndexOutOfBoundsException.class,
                    () -> x.cableAt(index));
        }
    }

    private static void bendsAreCounted() {
        Tetherline x = new Tetherline(3, 3, 60);
        x.pillar(1, 1);
        Check.due("bends() at the base", 0, x.bends());
        int[] due = {0, 0, 1, 1, 2, 2, 3, 3, 4, 4, 5, 5, 6, 6, 7, 7, 8, 8, 9, 9, 10, 10, 11, 11};
        for (int made = 0; made < due.length; made++) {
            x.step(ROUND[made % 8]);
            Check.due("bends() behind " + (made + 1) + " steps", due[made], x.bends());
        }
        Tetherline free = new Tetherline(5, 5, 60);
        walk(free, 1, 2, 1, 2, 1, 2);
        Check.due("bends() of the cable, not of the walk", 1, free.bends());
        free.base(0, 0);
        walk(free, 1, 2);
        Check.due("bends() between the only two steps", 1, free.bends());
        walk(free, 2, 2);
        Check.due("bends() just before the base", 1, free.bends());
    }
}

/** Promises 1 (a new object), 2 (pillar) and 3 (base). */
public final class FloorTest {

    private static final int MIN = Integer.MIN_VALUE;
    private static final int MAX = Integer.MAX_VALUE;

    public static void main(String[] args) {
        newFloorHasItsSides();
        newFloorHasItsLimit();
        newFloorIsEmpty();
        pillarsAreNumbered();
        pillarIsRefused();
        pillarIsRefusedWhileTheCrawlerIsAway();
        refusedPillarChangesNothing();
        pillarKeepsTheCrawler();
        pillarCountsFromThenOn();
        baseTakesTheCrawler();
        baseIsRefused();
        refusedBaseChangesNothing();
        Check.end("FloorTest");
    }

    private static void newFloorHasItsSides() {
        int[][] sides = {{3, 3}, {4, 4}, {5, 5}, {6, 6}, {7, 7}, {2, 3}, {1, 3}, {0, 3}, {-1, 3}, {MIN, 3}, {8, 7},
            {9, 7}, {MAX, 7}};
        for (int[] columns : sides) {
            for (int[] rows : sides) {
                Tetherline x = new Tetherline(columns[0], rows[0], 60);
                String name = "new Tetherline(" + columns[0] + ", " + rows[0] + ", 60): ";
                int lastColumn = columns[1] - 1;
                int lastRow = rows[1] - 1;
                Check.due(name + "least of the last square", lastColumn + lastRow, x.least(lastColumn, lastRow));
                Check.due(name + "squares()", columns[1] * rows[1], x.squares());
                Check.dueThrow(name + "a column more", IndexOutOfBoundsException.class,
                        () -> x.least(lastColumn + 1, lastRow));
                Check.dueThrow(name + "a row more", IndexOutOfBoundsException.class,
                        () -> x.least(lastColumn, lastRow + 1));
            }
        }
    }

    private static void newFloorHasItsLimit() {
        int[][] limits = {{MIN, 1}, {-1, 1}, {0, 1}, {1, 1}, {2, 2}, {17, 17}, {59, 59}, {60, 60}, {61, 60}, {MAX, 60}};
        for (int[] limit : limits) {
            Check.due("new Tetherline(5, 5, " + limit[0] + ").slack()", limit[1],
                    new Tetherline(5, 5, limit[0]).slack());
        }
        Tetherline shortest = new Tetherline(5, 5, -7);
        Check.due("the first step at limit 1", 1, shortest.step(1));
        Check.dueThrow("the second step at limit 1", IllegalStateException.class, () -> shortest.step(1));
    }

    private static void newFloorIsEmpty() {
        Tetherline x = new Tetherline(7, 7, 60);
        Check.due("column()", 0, x.column());
        Check.due("row()", 0, x.row());
        Check.due("letters()", 0, x.letters());
        Check.due("length()", 0, x.length());
        Check.due("steps()", 0, x.steps());
        Check.due("bends()", 0, x.bends());
        Check.due("cableAt(0)", 0, x.cableAt(0));
        for (int column = 0; column < 7; column++) {
            for (int row = 0; row < 7; row++) {
                Check.due("least without pillars", column + row, x.least(column, row));
                Check.due("words without pillars", 1, x.words(column, row));
            }
        }
    }

    private static void pillarsAreNumbered() {
        Tetherline x = new Tetherline(3, 7, 60);
        Check.due("pillar(2, 6)", 0, x.pillar(2, 6));
        Check.due("pillar(0, 1)", 1, x.pillar(0, 1));
        Check.due("pillar(1, 3)", 2, x.pillar(1, 3));
        Check.due("least of pillar 0", -1, x.least(2, 6));
        Check.due("least of pillar 1", -1, x.least(0, 1));
        Check.due("least of pillar 2", -1, x.least(1, 3));
        Check.due("squares()", 18, x.squares());
    }

    private static void pillarIsRefused() {
        Tetherline x = new Tetherline(4, 5, 60);
        int[][] off = {{-1, 0}, {0, -1}, {4, 0}, {0, 5}, {MIN, 0}, {0, MIN}, {MAX, 0}, {0, MAX}, {-1, 7}, {4, 5}};
        for (int[] s : off) {
            Check.dueThrow("pillar off the floor", IndexOutOfBoundsException.class, () -> x.pillar(s[0], s[1]));
        }
        Check.dueThrow("pillar on the base", IllegalStateException.class, () -> x.pillar(0, 0));
        Check.due("pillar(3, 4)", 0, x.pillar(3, 4));
        Check.dueThrow("pillar on a pillar", IllegalStateException.class, () -> x.pillar(3, 4));
        Check.due("pillar(2, 2)", 1, x.pillar(2, 2));
        x.base(3, 0);
        Check.dueThrow("pillar on the base that was set", IllegalStateException.class, () -> x.pillar(3, 0));
        Check.due("pillar on the old base", 2, x.pillar(0, 0));
        Check.due("least of that pillar", -1, x.least(0, 0));
        Check.dueThrow("a fourth pillar", IllegalStateException.class, () -> x.pillar(1, 4));
        Check.dueThrow("a fourth pillar on a pillar", IllegalStateException.class, () -> x.pillar(2, 2));
        for (int[] s : off) {
            Check.dueThrow("a fourth pillar off the floor", IndexOutOfBoundsException.class, () -> x.pillar(s[0], s[1]));
        }
    }

    private static void pillarIsRefusedWhileTheCrawlerIsAway() {
        Tetherline x = new Tetherline(5, 5, 60);
        x.pillar(2, 2);
        x.step(1);
        Check.dueThrow("pillar while away", IllegalStateException.class, () -> x.pillar(4, 4));
        Check.dueThrow("pillar where the crawler is", IllegalStateException.class, () -> x.pillar(1, 0));
        Check.dueThrow("pillar off the floor while away", IndexOutOfBoundsException.class, () -> x.pillar(5, 4));
        for (int direction : new int[] {1, 1, 2, 2, 2, 3, 3, 3, 0, 0, 0}) {
            x.step(direction);
        }
        Check.due("column() after a round", 0, x.column());
        Check.due("row() after a round", 0, x.row());
        Check.due("letters() after a round", 1, x.letters());
        Check.dueThrow("pillar at the base with a letter", IllegalStateException.class, () -> x.pillar(4, 4));
        x.back(60);
        Check.due("letters() after going back", 0, x.letters());
        Check.due("pillar at the base without letters", 1, x.pillar(4, 4));
        x.go(3, 3);
        x.base(3, 3);
        Check.due("pillar behind base()", 2, x.pillar(0, 0));
    }

    private static void refusedPillarChangesNothing() {
        Tetherline x = new Tetherline(5, 5, 60);
        Check.dueThrow("pillar(0, 0)", IllegalStateException.class, () -> x.pillar(0, 0));
        Check.dueThrow("pillar(5, 0)", IndexOutOfBoundsException.class, () -> x.pillar(5, 0));
        x.step(2);
        Check.dueThrow("pillar(3, 3)", IllegalStateException.class, () -> x.pillar(3, 3));
        Check.due("squares()", 25, x.squares());
        Check.due("steps()", 1, x.steps());
        Check.due("row()", 1, x.row());
        x.step(0);
        Check.due("the first pillar's number", 0, x.pillar(3, 3));
    }

    private static void pillarKeepsTheCrawler() {
        Tetherline x = new Tetherline(5, 5, 60);
        x.step(1);
        x.step(2);
        x.back(60);
        Check.due("pillar(1, 1)", 0, x.pillar(1, 1));
        Check.due("steps() behind pillar()", 4, x.steps());
        Check.due("column() behind pillar()", 0, x.column());
        Check.due("row() behind pillar()", 0, x.row());
        Check.due("letters() behind pillar()", 0, x.letters());
        Check.due("length() behind pillar()", 0, x.length());
    }

    private static void pillarCountsFromThenOn() {
        Tetherline x = new Tetherline(3, 3, 60);
        Check.due("least(2, 0)", 2, x.least(2, 0));
        x.pillar(1, 0);
        Check.due("least(2, 0) behind a pillar", 4, x.least(2, 0));
        x.pillar(1, 1);
        Check.due("least(2, 0) behind two pillars", 6, x.least(2, 0));
        x.pillar(1, 2);
        Check.due("least(2, 0) behind a wall", -1, x.least(2, 0));
        Check.due("squares() before a wall", 3, x.squares());
    }

    private static void baseTakesTheCrawler() {
        Tetherline x = new Tetherline(5, 6, 60);
        x.pillar(1, 1);
        x.go(4, 0);
        Check.due("letters() before base()", 1, x.letters());
        x.base(3, 5);
        Check.due("column()", 3, x.column());
        Check.due("row()", 5, x.row());
        Check.due("letters()", 0, x.letters());
        Check.due("length()", 0, x.length());
        Check.due("slack()", 60, x.slack());
        Check.due("steps()", 0, x.steps());
        Check.due("least(3, 5)", 0, x.least(3, 5));
        Check.due("least(0, 0)", 8, x.least(0, 0));
        x.go(0, 0);
        Check.due("cableAt(8)", 35, x.cableAt(8));
        x.base(0, 0);
        Check.due("steps() where the crawler was", 0, x.steps());
        Check.due("length() where the crawler was", 0, x.length());
        x.step(1);
        x.base(0, 0);
        Check.due("column() at the same base anew", 0, x.column());
        Check.due("steps() at the same base anew", 0, x.steps());
    }

    private static void baseIsRefused() {
        Tetherline x = new Tetherline(6, 4, 60);
        x.pillar(5, 3);
        int[][] off = {{-1, 0}, {0, -1}, {6, 0}, {0, 4}, {MIN, 0}, {0, MIN}, {MAX, 0}, {0, MAX}, {-1, 7}, {6, 4}};
        for (int[] s : off) {
            Check.dueThrowOf("base off the floor", IndexOutOfBoundsException.class, () -> x.base(s[0], s[1]));
        }
        Check.dueThrowOf("base on a pillar", IllegalStateException.class, () -> x.base(5, 3));
    }

    private static void refusedBaseChangesNothing() {
        Tetherline x = new Tetherline(6, 4, 60);
        x.pillar(1, 3);
        x.go(2, 1);
        Check.dueThrowOf("base on a pillar", IllegalStateException.class, () -> x.base(1, 3));
        Check.dueThrowOf("base off the floor", IndexOutOfBoundsException.class, () -> x.base(6, 3));
        Check.due("steps()", 3, x.steps());
        Check.due("letters()", 1, x.letters());
        Check.due("length()", 3, x.length());
        Check.due("column()", 2, x.column());
        Check.due("row()", 1, x.row());
        Check.due("least(0, 0)", 0, x.least(0, 0));
    }
}

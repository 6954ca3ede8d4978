/** Promises 17 (least), 18 (missing), 19 (words) and 20 (squares). */
public final class GoalsTest {

    private static final int MIN = Integer.MIN_VALUE;
    private static final int MAX = Integer.MAX_VALUE;

    public static void main(String[] args) {
        leastOverAllWords();
        leastDoesNotAskForTheLimit();
        missingIsWhatTheLimitLacks();
        wordsOfAPillar();
        wordsOfThreePillars();
        wordsOfTheLimit();
        squaresOfTheLimit();
        squaresBehindAWall();
        goalsOffTheFloor();
        questionsChangeNothing();
        Check.end("GoalsTest");
    }

    private static void leastOverAllWords() {
        Tetherline x = new Tetherline(3, 3, 60);
        x.pillar(1, 1);
        int[][] due = {{0, 1, 2}, {1, -1, 3}, {2, 3, 4}};
        dueLeast("a pillar in the middle", x, due);
        for (int direction : new int[] {1, 1, 2, 2, 3, 3, 0, 0}) {
            x.step(direction);
        }
        dueLeast("wherever the crawler is", x, due);
        x.base(2, 1);
        dueLeast("from another base", x, new int[][] {{3, 4, 3}, {2, -1, 2}, {1, 0, 1}});
        x.pillar(1, 0);
        dueLeast("behind another pillar", x, new int[][] {{5, 4, 3}, {-1, -1, 2}, {1, 0, 1}});
        x.pillar(1, 2);
        dueLeast("behind a wall", x, new int[][] {{-1, -1, -1}, {-1, -1, -1}, {1, 0, 1}});
    }

    private static void dueLeast(String where, Tetherline x, int[][] due) {
        for (int column = 0; column < 3; column++) {
            for (int row = 0; row < 3; row++) {
                Check.due("least(" + column + ", " + row + ") " + where, due[column][row], x.least(column, row));
            }
        }
    }

    private static void leastDoesNotAskForTheLimit() {
        Tetherline x = new Tetherline(7, 7, 1);
        Check.due("least(6, 6) at limit 1", 12, x.least(6, 6));
        Check.due("least(1, 0) at limit 1", 1, x.least(1, 0));
    }

    private static void missingIsWhatTheLimitLacks() {
        Tetherline x = new Tetherline(7, 7, 5);
        x.pillar(6, 6);
        Check.due("missing() of the base", 0, x.missing(0, 0));
        Check.due("missing() below the limit", 0, x.missing(2, 2));
        Check.due("missing() at the limit", 0, x.missing(3, 2));
        Check.due("missing() of 1", 1, x.missing(3, 3));
        Check.due("missing() of 6", 6, x.missing(6, 5));
        Check.due("missing() of a pillar", -1, x.missing(6, 6));
        x.pillar(5, 6);
        x.pillar(6, 5);
        x.base(6, 0);
        Check.due("missing() from another base", 5, x.missing(0, 4));
        Tetherline corner = new Tetherline(3, 3, 60);
        corner.pillar(1, 2);
        corner.pillar(2, 1);
        Check.due("missing() of a corner closed off", -1, corner.missing(2, 2));
        Check.due("least() of a corner closed off", -1, corner.least(2, 2));
    }

    private static void wordsOfAPillar() {
        Tetherline x = new Tetherline(3, 3, 60);
        Check.due("words() without pillars", 1, x.words(2, 2));
        x.pillar(1, 1);
        // No letters, and 1 to 3 letters one way or the other; the longest is 3 rounds and the way there.
        Check.due("words() of the base", 7, x.words(0, 0));
        Check.due("words() of the other corner", 7, x.words(2, 2));
        Check.due("words() of the pillar", 0, x.words(1, 1));
    }

    /**
     * All words of 3 letters at most, without a letter behind its opposite: 1 + 6 + 30 + 150. A round about one pillar
     * alone, by the lowest row and back to the base, takes 20 steps at most, so three of them are within the limit.
     */
    private static void wordsOfThreePillars() {
        Tetherline x = new Tetherline(7, 3, 60);
        x.pillar(1, 1);
        x.pillar(3, 1);
        Check.due("words() of two pillars", 1 + 4 + 12 + 36, x.words(0, 0));
        x.pillar(5, 1);
        Check.due("words() of three pillars", 1 + 6 + 30 + 150, x.words(0, 0));
        Check.due("words() of a pillar", 0, x.words(3, 1));
    }

    private static void wordsOfTheLimit() {
        int[][] due = {{1, 1}, {7, 1}, {8, 3}, {9, 3}, {15, 3}, {16, 5}, {17, 5}, {23, 5}, {24, 7}, {60, 7}};
        for (int[] limit : due) {
            Tetherline x = new Tetherline(3, 3, limit[0]);
            x.pillar(1, 1);
            Check.due("words(0, 0) at limit " + limit[0], limit[1], x.words(0, 0));
        }
        Tetherline near = new Tetherline(3, 3, 3);
        near.pillar(1, 1);
        Check.due("words(2, 2) at limit 3", 0, near.words(2, 2));
        Tetherline both = new Tetherline(3, 3, 4);
        both.pillar(1, 1);
        Check.due("words(2, 2) at limit 4", 2, both.words(2, 2));
    }

    private static void squaresOfTheLimit() {
        // Neither pillar makes a way longer: it is the squares so many lines away, less the pillars.
        int[][] due = {{1, 3}, {2, 6}, {3, 10}, {4, 15}, {5, 20}, {6, 27}, {10, 45}, {11, 46}, {12, 47}, {60, 47}};
        for (int[] limit : due) {
            Tetherline x = new Tetherline(7, 7, limit[0]);
            x.pillar(1, 4);
            x.pillar(6, 5);
            Check.due("squares() at limit " + limit[0], limit[1], x.squares());
            x.step(2);
            Check.due("squares() wherever the crawler is, at limit " + limit[0], limit[1], x.squares());
        }
        Tetherline small = new Tetherline(3, 3, 1);
        Check.due("squares() at limit 1", 3, small.squares());
        small.base(1, 1);
        Check.due("squares() at limit 1 in the middle", 5, small.squares());
        Tetherline two = new Tetherline(3, 3, 2);
        Check.due("squares() at limit 2", 6, two.squares());
        two.pillar(1, 0);
        Check.due("squares() at limit 2 beside a pillar", 4, two.squares());
    }

    private static void squaresBehindAWall() {
        Tetherline x = new Tetherline(3, 5, 60);
        x.pillar(0, 2);
        x.pillar(1, 2);
        Check.due("squares() beside a wall with a gap", 13, x.squares());
        x.pillar(2, 2);
        Check.due("squares() above a wall", 6, x.squares());
        Check.due("words() behind a wall", 0, x.words(0, 4));
        Check.due("missing() behind a wall", -1, x.missing(0, 4));
        x.base(0, 4);
        Check.due("squares() below a wall", 6, x.squares());
    }

    private static void goalsOffTheFloor() {
        Tetherline x = new Tetherline(4, 6, 60);
        int[][] off = {{-1, 0}, {0, -1}, {4, 0}, {0, 6}, {MIN, 0}, {0, MIN}, {MAX, 0}, {0, MAX}, {-1, 7}, {4, 6}};
        for (int[] s : off) {
            String square = "(" + s[0] + ", " + s[1] + ")";
            Check.dueThrow("least" + square, IndexOutOfBoundsException.class, () -> x.least(s[0], s[1]));
            Check.dueThrow("missing" + square, IndexOutOfBoundsException.class, () -> x.missing(s[0], s[1]));
            Check.dueThrow("words" + square, IndexOutOfBoundsException.class, () -> x.words(s[0], s[1]));
        }
        Check.due("least(3, 5)", 8, x.least(3, 5));
    }

    private static void questionsChangeNothing() {
        Tetherline x = new Tetherline(5, 5, 20);
        x.pillar(1, 1);
        x.go(3, 2);
        x.least(4, 4);
        x.missing(4, 4);
        x.words(4, 4);
        x.squares();
        x.lengthByTrying(8);
        x.cableAt(2);
        x.bends();
        Check.due("length()", 5, x.length());
        Check.due("column()", 3, x.column());
        Check.due("row()", 2, x.row());
        Check.due("steps()", 5, x.steps());
        Check.due("letters()", 1, x.letters());
    }
}

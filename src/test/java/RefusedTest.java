import java.util.NoSuchElementException;

/**
 * "A call that throws an exception changes nothing. If several apply, the one that the throws clause names first is
 * thrown.": every call that is refused, in several scenes. A twin goes without the refused call; what can be asked of
 * both then, and what both answer to the calls that follow, has to be the same.
 */
public final class RefusedTest {

    private static final int MIN = Integer.MIN_VALUE;
    private static final int MAX = Integer.MAX_VALUE;

    private static final Class<? extends RuntimeException> INDEX = IndexOutOfBoundsException.class;
    private static final Class<? extends RuntimeException> STATE = IllegalStateException.class;
    private static final Class<? extends RuntimeException> ARGUMENT = IllegalArgumentException.class;
    private static final Class<? extends RuntimeException> NO_SUCH = NoSuchElementException.class;

    interface Scene {
        Tetherline make();
    }

    interface Act {
        long on(Tetherline x);
    }

    private final String name;
    private final Scene scene;
    private final int columns;
    private final int rows;

    private RefusedTest(String name, int columns, int rows, Scene scene) {
        this.name = name;
        this.columns = columns;
        this.rows = rows;
        this.scene = scene;
    }

    public static void main(String[] args) {
        newObject();
        awayAtTheLimit();
        threePillarsAtTheBase();
        threePillarsWoundAtTheBase();
        threeLettersAway();
        behindAWall();
        largestFloorFarOut();
        Check.end("RefusedTest");
    }

    // ---- scenes

    private static void newObject() {
        RefusedTest test = new RefusedTest("a new object", 3, 4, () -> new Tetherline(3, 4, 2));
        test.refusedWhereverItIs(0, 0);
        test.refused(STATE, "pillar on the base", x -> x.pillar(0, 0));
        test.refused(STATE, "step up out of the floor", x -> x.step(0));
        test.refused(STATE, "step left out of the floor", x -> x.step(3));
        test.refused(NO_SUCH, "go above the limit", x -> x.go(2, 1));
        test.refused(NO_SUCH, "go above the limit", x -> x.go(0, 3));
    }

    private static void awayAtTheLimit() {
        RefusedTest test = new RefusedTest("away at the limit", 4, 4, () -> {
            Tetherline x = new Tetherline(4, 4, 4);
            x.pillar(1, 1);
            walk(x, 1, 1, 2, 2);
            return x;
        });
        test.refusedWhereverItIs(1, 4);
        test.refused(STATE, "pillar while away", x -> x.pillar(3, 3));
        test.refused(STATE, "pillar on a pillar while away", x -> x.pillar(1, 1));
        test.refused(STATE, "pillar on the base while away", x -> x.pillar(0, 0));
        test.refused(STATE, "pillar on the crawler", x -> x.pillar(2, 2));
        test.refused(STATE, "base on a pillar", x -> set(x, 1, 1));
        test.refused(STATE, "step right above the limit", x -> x.step(1));
        test.refused(STATE, "step down above the limit", x -> x.step(2));
        test.refused(STATE, "step left above the limit, with its letter", x -> x.step(3));
        test.refused(NO_SUCH, "go to a pillar", x -> x.go(1, 1));
        test.refused(NO_SUCH, "go above the limit", x -> x.go(3, 2));
    }

    private static void threePillarsAtTheBase() {
        RefusedTest test = new RefusedTest("three pillars, at the base", 5, 3, () -> {
            Tetherline x = new Tetherline(5, 3, 60);
            x.pillar(1, 1);
            x.pillar(3, 1);
            x.pillar(4, 2);
            x.base(3, 2);
            return x;
        });
        test.refusedWhereverItIs(0, 0);
        test.refused(STATE, "a fourth pillar", x -> x.pillar(0, 0));
        test.refused(STATE, "a fourth pillar on the base", x -> x.pillar(3, 2));
        test.refused(STATE, "a fourth pillar on a pillar", x -> x.pillar(1, 1));
        test.refused(STATE, "base on pillar 0", x -> set(x, 1, 1));
        test.refused(STATE, "base on pillar 1", x -> set(x, 3, 1));
        test.refused(STATE, "base on pillar 2", x -> set(x, 4, 2));
        test.refused(STATE, "step up into a pillar", x -> x.step(0));
        test.refused(STATE, "step right into a pillar", x -> x.step(1));
        test.refused(STATE, "step down out of the floor", x -> x.step(2));
        test.refused(NO_SUCH, "go to pillar 0", x -> x.go(1, 1));
        test.refused(NO_SUCH, "go to pillar 1", x -> x.go(3, 1));
        test.refused(NO_SUCH, "go to pillar 2", x -> x.go(4, 2));
    }

    private static void threePillarsWoundAtTheBase() {
        RefusedTest test = new RefusedTest("three pillars, wound at the base", 5, 3, () -> {
            Tetherline x = new Tetherline(5, 3, 8);
            x.pillar(1, 1);
            x.pillar(4, 0);
            x.pillar(4, 2);
            walk(x, 1, 1, 2, 2, 3, 3, 0, 0);
            return x;
        });
        test.refusedWhereverItIs(1, 8);
        test.refused(STATE, "a fourth pillar", x -> x.pillar(3, 1));
        test.refused(STATE, "a fourth pillar on the base", x -> x.pillar(0, 0));
        test.refused(STATE, "a fourth pillar on a pillar", x -> x.pillar(4, 2));
        test.refused(STATE, "base on a pillar", x -> set(x, 4, 0));
        test.refused(STATE, "step up out of the floor", x -> x.step(0));
        test.refused(STATE, "step right above the limit", x -> x.step(1));
        test.refused(NO_SUCH, "go to a pillar", x -> x.go(4, 0));
    }

    private static void threeLettersAway() {
        RefusedTest test = new RefusedTest("three letters", 3, 3, () -> {
            Tetherline x = new Tetherline(3, 3, 60);
            x.pillar(1, 1);
            for (int round = 0; round < 3; round++) {
                walk(x, 1, 1, 2, 2, 3, 3, 0, 0);
            }
            walk(x, 1);
            return x;
        });
        test.refusedWhereverItIs(3, 25);
        test.refused(STATE, "a step with a fourth letter", x -> x.step(1));
        test.refused(STATE, "step up out of the floor", x -> x.step(0));
        test.refused(STATE, "step down into the pillar", x -> x.step(2));
        test.refused(STATE, "pillar while away", x -> x.pillar(2, 2));
        test.refused(NO_SUCH, "go to the pillar", x -> x.go(1, 1));
        RefusedTest home = new RefusedTest("one pillar, wound at the base", 3, 3, () -> {
            Tetherline x = new Tetherline(3, 3, 60);
            x.pillar(1, 1);
            walk(x, 2, 2, 1, 1, 0, 0, 3, 3);
            return x;
        });
        home.refusedWhereverItIs(1, 8);
        home.refused(STATE, "pillar at the base with a letter", x -> x.pillar(2, 2));
        home.refused(STATE, "pillar on the base with a letter", x -> x.pillar(0, 0));
    }

    private static void behindAWall() {
        RefusedTest test = new RefusedTest("before a wall", 5, 3, () -> {
            Tetherline x = new Tetherline(5, 3, 60);
            x.pillar(2, 0);
            x.pillar(2, 1);
            x.pillar(2, 2);
            x.go(1, 1);
            return x;
        });
        test.refusedWhereverItIs(0, 2);
        test.refused(NO_SUCH, "go behind the wall", x -> x.go(3, 1));
        test.refused(NO_SUCH, "go to the far corner", x -> x.go(4, 2));
        test.refused(NO_SUCH, "go into the wall", x -> x.go(2, 1));
        test.refused(STATE, "step into the wall", x -> x.step(1));
        test.refused(STATE, "a fourth pillar while away", x -> x.pillar(4, 2));
    }

    private static void largestFloorFarOut() {
        RefusedTest test = new RefusedTest("the largest floor, far out", 7, 7, () -> {
            Tetherline x = new Tetherline(7, 7, 12);
            x.pillar(1, 1);
            x.pillar(5, 5);
            x.go(6, 6);
            return x;
        });
        test.refusedWhereverItIs(2, 12);
        test.refused(STATE, "step right out of the floor", x -> x.step(1));
        test.refused(STATE, "step down out of the floor", x -> x.step(2));
        test.refused(STATE, "step left above the limit", x -> x.step(3));
    }

    // ---- what is refused in every scene, whatever else applies

    private void refusedWhereverItIs(int letters, int length) {
        Check.due(name + ": letters()", letters, scene.make().letters());
        Check.due(name + ": length()", length, scene.make().length());
        refusedSquares();
        for (int direction : new int[] {MIN, MIN + 1, MIN + 3, -4, -1, 4, 5, 8, MAX - 1, MAX}) {
            refused(ARGUMENT, "step(" + direction + ")", x -> x.step(direction));
        }
        for (int steps : new int[] {MIN, MIN + 1, -60, -1, 0, 61, 62, MAX - 1, MAX}) {
            refused(ARGUMENT, "back(" + steps + ")", x -> x.back(steps));
        }
        for (int most : new int[] {MIN, MIN + 8, -8, -1, 9, 10, MAX}) {
            refused(ARGUMENT, "lengthByTrying(" + most + ")", x -> x.lengthByTrying(most));
        }
        for (int index : new int[] {MIN, MIN + 1, -2, -1, letters, letters + 1, letters + 7, MAX - 1, MAX}) {
            refused(INDEX, "letterAt(" + index + ")", x -> x.letterAt(index));
        }
        for (int index : new int[] {MIN, MIN + 1, -2, -1, length + 1, length + 2, length + 61, MAX - 1, MAX}) {
            refused(INDEX, "cableAt(" + index + ")", x -> x.cableAt(index));
        }
    }

    private void refusedSquares() {
        int[][] off = {{-1, 0}, {0, -1}, {-1, -1}, {columns, 0}, {0, rows}, {columns, rows}, {columns, rows - 1},
            {columns - 1, rows}, {-1, rows}, {columns, -1}, {-1, 7}, {1, -7}, {7, 0}, {0, 7}, {MIN, 0}, {0, MIN},
            {MAX, 0}, {0, MAX}, {MIN, MIN}, {MAX, MAX}, {MIN, MAX}, {MAX, MIN}, {MIN / 7, 0}, {MAX / 7 + 1, 1}};
        for (int[] square : off) {
            int column = square[0];
            int row = square[1];
            String at = "(" + column + ", " + row + ")";
            refused(INDEX, "pillar" + at, x -> x.pillar(column, row));
            refused(INDEX, "base" + at, x -> set(x, column, row));
            refused(INDEX, "go" + at, x -> x.go(column, row));
            refused(INDEX, "least" + at, x -> x.least(column, row));
            refused(INDEX, "missing" + at, x -> x.missing(column, row));
            refused(INDEX, "words" + at, x -> x.words(column, row));
        }
    }

    private void refused(Class<? extends RuntimeException> want, String call, Act act) {
        Tetherline x = scene.make();
        Tetherline twin = scene.make();
        String where = name + ": " + call;
        Check.dueThrow(where, want, () -> act.on(x));
        Check.dueText("what is asked behind " + where, State.of(twin), State.of(x));
        Check.dueText("what follows behind " + where, following(twin), following(x));
    }

    // ---- what follows

    /** Answers of calls that tell what no question tells, as the number of the next pillar. */
    private String following(Tetherline x) {
        StringBuilder text = new StringBuilder();
        for (int direction = 0; direction < 4; direction++) {
            int tried = direction;
            text.append(' ').append(answer(() -> x.step(tried)));
        }
        text.append(' ').append(answer(() -> x.go(columns - 1, rows - 1)));
        text.append(' ').append(answer(() -> x.back(1)));
        text.append(' ').append(x.back(60)).append(' ').append(x.steps());
        for (int i = 0; i < columns; i++) {
            int column = i;
            text.append(' ').append(answer(() -> x.pillar(column, rows - 1)));
        }
        text.append(' ').append(x.squares()).append(' ').append(answer(() -> x.go(columns - 1, rows - 1)));
        return text.toString();
    }

    private static String answer(Check.Call call) {
        try {
            return "" + call.answer();
        } catch (RuntimeException e) {
            return Check.thrown(e);
        }
    }

    private static long set(Tetherline x, int column, int row) {
        x.base(column, row);
        return 0;
    }

    private static void walk(Tetherline x, int... directions) {
        for (int direction : directions) {
            x.step(direction);
        }
    }
}

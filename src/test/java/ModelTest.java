import java.util.Random;

/**
 * Runs of drawn calls, each answered by Tetherline and by Model; every answer and exception is compared. A run ends
 * with its 512th call, as nothing is promised of later ones.
 */
public final class ModelTest {

    private static final int RUNS = 600;
    private static final int CALLS = 512;
    private static final int[] ODD = {Integer.MIN_VALUE, Integer.MIN_VALUE + 1, -2, -1, 0, 1, 2, 3, 4, 6, 7, 8, 9, 59,
        60, 61, Integer.MAX_VALUE - 1, Integer.MAX_VALUE};

    private final Random random;
    private final String name;
    private final Tetherline x;
    private final Model model;
    private final int restless;
    private int calls = 0;

    private ModelTest(int seed) {
        random = new Random(seed);
        int columns = side();
        int rows = side();
        int limit = random.nextInt(3) == 0 ? odd() : 1 + random.nextInt(60);
        name = "run " + seed + " of new Tetherline(" + columns + ", " + rows + ", " + limit + "): ";
        x = new Tetherline(columns, rows, limit);
        model = new Model(columns, rows, limit);
        restless = random.nextInt(12);
    }

    public static void main(String[] args) {
        for (int seed = 1; seed <= RUNS; seed++) {
            new ModelTest(seed).run();
        }
        Check.end("ModelTest");
    }

    private void run() {
        int pillars = random.nextInt(5);
        for (int i = 0; i < pillars; i++) {
            setPillar();
        }
        if (random.nextBoolean()) {
            setBase();
        }
        while (calls < CALLS) {
            change();
            int kind = random.nextInt(24);
            if (kind < 8) {
                askForTheWay();
            } else if (kind < 10) {
                askForThePlace();
            } else if (kind < 12) {
                askForGoals();
            }
        }
    }

    private void change() {
        int kind = random.nextInt(150);
        if (kind < 1) {
            setBase();
        } else if (kind < 2) {
            setPillar();
        } else if (kind < 4) {
            int steps = random.nextInt(3) == 0 ? odd() : 1 + random.nextInt(12);
            compare("back(" + steps + ")", () -> model.back(steps), () -> x.back(steps));
        } else if (kind < 6) {
            int column = column();
            int row = row();
            compare("go(" + column + ", " + row + ")", () -> model.go(column, row), () -> x.go(column, row));
        } else {
            int direction = random.nextInt(30) == 0 ? odd() : direction();
            compare("step(" + direction + ")", () -> model.step(direction), () -> x.step(direction));
        }
    }

    /** Mostly one that leads away from the base, as steps drawn evenly seldom wind the cable far. */
    private int direction() {
        int direction = random.nextInt(4);
        for (int tried = 0; tried < restless && model.lengthBehind(direction) <= model.length(); tried++) {
            direction = random.nextInt(4);
        }
        return direction;
    }

    private void setPillar() {
        int column = column();
        int row = row();
        compare("pillar(" + column + ", " + row + ")", () -> model.pillar(column, row), () -> x.pillar(column, row));
    }

    private void setBase() {
        int column = column();
        int row = row();
        compare("base(" + column + ", " + row + ")", () -> {
            model.base(column, row);
            return 0;
        }, () -> {
            x.base(column, row);
            return 0;
        });
    }

    private void askForTheWay() {
        compare("column()", model::column, x::column);
        compare("row()", model::row, x::row);
        compare("letters()", model::letters, x::letters);
        compare("steps()", model::steps, x::steps);
    }

    private void askForThePlace() {
        compare("length()", model::length, x::length);
        compare("slack()", model::slack, x::slack);
        compare("bends()", model::bends, x::bends);
        for (int i = 0; i <= 3; i++) {
            int index = i;
            compare("letterAt(" + index + ")", () -> model.letterAt(index), () -> x.letterAt(index));
        }
        int odd = odd();
        compare("letterAt(" + odd + ")", () -> model.letterAt(odd), () -> x.letterAt(odd));
        compare("cableAt(" + odd + ")", () -> model.cableAt(odd), () -> x.cableAt(odd));
        for (int i = 0; i < 4; i++) {
            int index = random.nextInt(model.length() + 2);
            compare("cableAt(" + index + ")", () -> model.cableAt(index), () -> x.cableAt(index));
        }
        int most = random.nextInt(5) == 0 ? odd() : random.nextInt(9);
        compare("lengthByTrying(" + most + ")", () -> model.lengthByTrying(most), () -> x.lengthByTrying(most));
    }

    private void askForGoals() {
        int column = column();
        int row = row();
        String square = "(" + column + ", " + row + ")";
        compare("least" + square, () -> model.least(column, row), () -> x.least(column, row));
        compare("missing" + square, () -> model.missing(column, row), () -> x.missing(column, row));
        compare("words" + square, () -> model.words(column, row), () -> x.words(column, row));
        compare("squares()", model::squares, x::squares);
    }

    private void compare(String call, Check.Call want, Check.Call got) {
        if (calls >= CALLS) {
            return;
        }
        calls++;
        Check.dueText(name + call, answer(want), answer(got));
    }

    private static String answer(Check.Call call) {
        try {
            return "" + call.answer();
        } catch (RuntimeException e) {
            return Check.thrown(e);
        }
    }

    private int column() {
        return random.nextInt(15) == 0 ? odd() : random.nextInt(model.columns());
    }

    private int row() {
        return random.nextInt(15) == 0 ? odd() : random.nextInt(model.rows());
    }

    private int side() {
        return random.nextInt(6) == 0 ? odd() : 3 + random.nextInt(5);
    }

    private int odd() {
        return ODD[random.nextInt(ODD.length)];
    }
}

/** All that can be asked of an object, as one text: two objects that differ in an answer have different texts. */
final class State {

    private static final int SIDE = 7;

    private State() {
    }

    /** Some 230 calls at most, so that an object can be asked twice within its 512. */
    static String of(Tetherline x) {
        return place(x) + word(x) + cable(x) + tried(x) + goals(x);
    }

    private static String place(Tetherline x) {
        return "column " + x.column() + ", row " + x.row() + ", length " + x.length() + ", slack " + x.slack()
                + ", steps " + x.steps() + ", bends " + x.bends() + ", squares " + x.squares();
    }

    private static String word(Tetherline x) {
        StringBuilder text = new StringBuilder(", word");
        int letters = x.letters();
        for (int i = 0; i < letters; i++) {
            text.append(' ').append(x.letterAt(i));
        }
        return text.toString();
    }

    private static String cable(Tetherline x) {
        StringBuilder text = new StringBuilder(", cable");
        int length = x.length();
        for (int i = 0; i <= length; i++) {
            text.append(' ').append(x.cableAt(i));
        }
        return text.toString();
    }

    private static String tried(Tetherline x) {
        StringBuilder text = new StringBuilder(", tried");
        for (int most = 0; most <= 8; most++) {
            text.append(' ').append(x.lengthByTrying(most));
        }
        return text.toString();
    }

    private static String goals(Tetherline x) {
        StringBuilder text = new StringBuilder(", goals");
        for (int column = 0; column < SIDE; column++) {
            for (int row = 0; row < SIDE; row++) {
                text.append(' ').append(goal(x, column, row));
            }
        }
        return text.toString();
    }

    private static String goal(Tetherline x, int column, int row) {
        try {
            return x.least(column, row) + "/" + x.missing(column, row) + "/" + x.words(column, row);
        } catch (IndexOutOfBoundsException e) {
            return "off";
        }
    }
}

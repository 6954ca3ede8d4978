/** Counts and prints the answers that are not as due; a test ends with end(). */
final class Check {

    interface Call {
        long answer();
    }

    interface Order {
        void give();
    }

    private static final int MOST_PRINTED = 40;
    private static int made = 0;
    private static int wrong = 0;

    private Check() {
    }

    static void due(String call, long want, long got) {
        made++;
        if (got != want) {
            tell(call + " answered " + got + ", due is " + want);
        }
    }

    /** The call throws just this class: what the machine throws by itself is a class below it, and wrong. */
    static void dueThrow(String call, Class<? extends RuntimeException> want, Call made) {
        String got;
        try {
            got = "answered " + made.answer();
        } catch (RuntimeException e) {
            got = thrown(e);
        }
        compareThrown(call, want, got);
    }

    static void dueThrowOf(String call, Class<? extends RuntimeException> want, Order made) {
        String got;
        try {
            made.give();
            got = "answered nothing";
        } catch (RuntimeException e) {
            got = thrown(e);
        }
        compareThrown(call, want, got);
    }

    static String thrown(RuntimeException e) {
        return "throws " + e.getClass().getName();
    }

    static void dueText(String call, String want, String got) {
        made++;
        if (!got.equals(want)) {
            tell(call + " answered " + got + ", due is " + want);
        }
    }

    static void end(String test) {
        System.out.println(test + ": " + made + " answers, " + wrong + " not as due");
        if (wrong != 0 || made == 0) {
            System.exit(1);
        }
    }

    private static void compareThrown(String call, Class<? extends RuntimeException> want, String got) {
        dueText(call, "throws " + want.getName(), got);
    }

    private static void tell(String text) {
        wrong++;
        if (wrong <= MOST_PRINTED) {
            System.out.println(text);
        }
    }
}

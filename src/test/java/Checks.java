/** Counts the checks of a test, and tells those that do not hold. */
final class Checks {
    private int right;
    private int wrong;

    void same(String what, long got, long want) {
        same(what, "" + got, "" + want);
    }

    void same(String what, String got, String want) {
        if (want == null ? got == null : want.equals(got)) {
            right++;
        } else {
            wrong++;
            System.out.println(some(what) + "\n  answered " + some(got) + "\n  due is   " + some(want));
        }
    }

    void holds(String what, boolean so) {
        same(what, so ? "so" : "not so", "so");
    }

    private static String some(String text) {
        return text == null || text.length() < 500 ? text : text.substring(0, 500) + " .. of " + text.length();
    }

    /** Tells the counts, and ends the test as failed if a check does not hold. */
    void end() {
        System.out.println(right + " checks hold, " + wrong + " do not");
        if (wrong != 0) {
            System.exit(1);
        }
    }
}

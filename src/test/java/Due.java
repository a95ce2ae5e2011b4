/** Counts and prints the answers that are not the ones due; a boolean counts 1 or 0. */
final class Due {
    private static int checked = 0;
    private static int wrong = 0;

    private Due() {
    }

    static void is(String what, long got, long want) {
        checked++;
        if (got != want) {
            wrong++;
            System.out.println(what + " answered " + got + ", due is " + want);
        }
    }

    static void is(String what, boolean got, boolean want) {
        is(what, got ? 1L : 0L, want ? 1L : 0L);
    }

    static void same(String what, Object got, Object want) {
        checked++;
        if (!got.equals(want)) {
            wrong++;
            String is = got.toString();
            String due = want.toString();
            int from = Math.max(0, firstDifference(is, due) - 40);
            System.out.println(what + ": is " + excerpt(is, from) + ", due is " + excerpt(due, from));
        }
    }

    private static int firstDifference(String one, String other) {
        int at = 0;
        while (at < one.length() && at < other.length() && one.charAt(at) == other.charAt(at)) {
            at++;
        }
        return at;
    }

    // Some texts tell all of an object many times over: only the place where they part is of use.
    private static String excerpt(String text, int from) {
        int to = Math.min(text.length(), from + 160);
        return (from > 0 ? ".. " : "") + text.substring(from, to) + (to < text.length() ? " .." : "");
    }

    /** Runs the test of one sentence of the document; one that throws or checks nothing is wrong too. */
    static void sentence(String text, Runnable test) {
        int checkedBefore = checked;
        int wrongBefore = wrong;
        try {
            test.run();
        } catch (RuntimeException | Error thrown) {
            wrong++;
            System.out.println("a call threw " + thrown);
        }
        if (checked == checkedBefore) {
            wrong++;
            System.out.println("nothing was checked");
        }
        if (wrong != wrongBefore) {
            System.out.println("BROKEN " + text);
        }
    }

    static int wrongSoFar() {
        return wrong;
    }

    static void end() {
        System.out.println(checked + " checks, " + wrong + " wrong");
        if (wrong != 0 || checked == 0) {
            System.exit(1);
        }
    }
}

/** Counts and prints the answers that are not the ones due; a boolean counts 1 or 0. */
final class Due {
    private static int checked = 0;
    private static int wrong = 0;

    private Due() {
    }

    static void is(String what, long got, long want) {
        checked++;
        if (got != want) {
            wrong++;
            System.out.println(what + " answered " + got + ", due is " + want);
        }
    }

    static void is(String what, boolean got, boolean want) {
        is(what, got ? 1L : 0L, want ? 1L : 0L);
    }

    static void same(String what, Object got, Object want) {
        checked++;
        if (!got.equals(want)) {
            wrong++;
            System.out.println(what + ": is " + got + ", due is " + want);
        }
    }

    static int wrongSoFar() {
        return wrong;
    }

    static void end() {
        System.out.println(checked + " checks, " + wrong + " wrong");
        if (wrong != 0 || checked == 0) {
            System.exit(1);
        }
    }
}

/** Compares answers with the ones that are due; a test ends by calling end(). */
final class Due {
    private static int wrong = 0;
    private static int compared = 0;

    private Due() {
    }

    static void is(String what, long want, long got) {
        compared++;
        if (got != want) {
            wrong++;
            System.out.println(what + " answered " + got + ", due is " + want);
        }
    }

    static void holds(String what, boolean condition) {
        is(what, 1, condition ? 1 : 0);
    }

    static void end() {
        System.out.println(compared + " compared, " + wrong + " wrong");
        System.exit(wrong == 0 ? 0 : 1);
    }
}

/** Counts the answers that are not as due; a test ends by end(). */
final class Due {
    private static int asked = 0;
    private static int wrong = 0;

    private Due() {
    }

    static void due(String what, long got, long want) {
        asked++;
        if (got != want) {
            wrong++;
            System.out.println(what + " answered " + got + ", due is " + want);
        }
    }

    static void fault(String what) {
        asked++;
        wrong++;
        System.out.println(what);
    }

    static int wrong() {
        return wrong;
    }

    static void end() {
        System.out.println(asked + " answers, " + wrong + " not as due");
        if (wrong > 0) {
            System.exit(1);
        }
    }
}

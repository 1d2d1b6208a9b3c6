/** Counts answers that are not as due, and tells them. */
final class Check {
    private static int wrong;

    private Check() {
    }

    static void due(String call, long got, long want) {
        if (got != want) {
            wrong++;
            if (wrong <= 50) {
                System.out.println(call + " answered " + got + ", due is " + want);
            }
        }
    }

    static void isTrue(String claim, boolean holds) {
        due(claim, holds ? 1 : 0, 1);
    }

    static int wrongSoFar() {
        return wrong;
    }

    static void end() {
        System.out.println(wrong == 0 ? "all answers are as due" : wrong + " answers are not as due");
        if (wrong != 0) {
            System.exit(1);
        }
    }
}

/** Counts the answers of a test that are as due, and those that are not. */
final class Check {
    private static int right = 0;
    private static int wrong = 0;

    private Check() {
    }

    static void due(String what, long got, long want) {
        if (got == want) {
            right++;
            return;
        }
        wrong++;
        System.out.println("  " + what + " answered " + got + ", due is " + want);
    }

    static void same(String what, String got, String want) {
        if (got.equals(want)) {
            right++;
            return;
        }
        wrong++;
        System.out.println("  " + what + " is\n" + got + "  due is\n" + want);
    }

    static int wrongOnes() {
        return wrong;
    }

    static void finish() {
        System.out.println("      " + right + " answers as due, " + wrong + " not");
        if (wrong != 0 || right == 0) {
            System.exit(1);
        }
    }
}

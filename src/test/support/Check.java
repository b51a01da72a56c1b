/** Compares answers with those that are due, and tells at the end whether all were right. */
final class Check {
    private static int wrong = 0;

    private Check() {
    }

    /** One test by name, so that a failing run says which sentence of the document is broken. */
    static void test(String name, Runnable body) {
        int before = wrong;
        body.run();
        System.out.println((wrong == before ? "ok     " : "WRONG  ") + name);
    }

    static void due(String call, int got, int want) {
        if (got != want) {
            tell(call, String.valueOf(got), String.valueOf(want));
        }
    }

    static void due(String call, boolean got, boolean want) {
        if (got != want) {
            tell(call, String.valueOf(got), String.valueOf(want));
        }
    }

    static void due(String call, String got, String want) {
        if (!got.equals(want)) {
            tell(call, got, want);
        }
    }

    static void end() {
        System.out.println(wrong == 0 ? "all answers are as due" : wrong + " answers are not as due");
        if (wrong != 0) {
            System.exit(1);
        }
    }

    private static void tell(String call, String got, String want) {
        wrong++;
        System.out.println(call + " answered " + got + ", due is " + want);
    }
}

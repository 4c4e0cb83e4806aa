/** Counts and prints the answers that are not the ones due; shared by the tests of the project. */
final class Due {
    private static int wrong = 0;

    private Due() {
    }

    static void due(String call, long got, long want) {
        if (got != want) {
            tell(call + " answered " + got + ", due is " + want);
        }
    }

    static void due(String call, boolean got, boolean want) {
        if (got != want) {
            tell(call + " answered " + got + ", due is " + want);
        }
    }

    static void due(String call, String got, String want) {
        if (!got.equals(want)) {
            tell(call + " gave " + got + ", due is " + want);
        }
    }

    static void tell(String fault) {
        wrong++;
        System.out.println(fault);
    }

    /** The test of one sentence of the document; what it throws is a fault, and the next test runs all the same. */
    static void sentence(String where, String words, Runnable test) {
        int earlier = wrong;
        try {
            test.run();
        } catch (RuntimeException | Error thrown) {
            tell("threw " + thrown);
        }
        if (wrong != earlier) {
            System.out.println("^ does not hold: " + where + ": " + words);
        }
    }

    static void end() {
        System.out.println(wrong == 0 ? "all answers are as due" : wrong + " answers are not as due");
        if (wrong != 0) {
            System.exit(1);
        }
    }
}

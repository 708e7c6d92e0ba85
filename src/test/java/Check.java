/** Counts the answers that are not the ones due, prints them, and ends a test with its exit code. */
final class Check {
    private static int checked = 0;
    private static int wrong = 0;
    private static int boundaries = 0;
    private static String boundary = "";

    private Check() {
    }

    static void due(String what, long got, long want) {
        checked++;
        if (got != want) {
            wrong(what + " answered " + got + ", due is " + want);
        }
    }

    static void due(String what, boolean got, boolean want) {
        due(what, got ? 1L : 0L, want ? 1L : 0L);
    }

    static void same(String what, Object got, Object want) {
        checked++;
        if (!got.equals(want)) {
            wrong(what + " is " + got + ", due is " + want);
        }
    }

    /**
     * One boundary case of the document, with a test of its own. What is thrown counts as a wrong
     * answer of this boundary, so that the others are still tested.
     */
    static void boundary(String name, Runnable test) {
        boundary = "[" + name + "] ";
        boundaries++;
        int before = checked;
        try {
            test.run();
        } catch (RuntimeException | Error thrown) {
            checked++;
            wrong("threw " + thrown);
        }
        if (checked == before) {
            wrong("tests nothing");
        }
        boundary = "";
    }

    static void finish() {
        System.out.println(checked + " answers checked, " + wrong + " wrong"
            + (boundaries > 0 ? "; " + boundaries + " boundary cases" : ""));
        if (wrong != 0 || checked == 0) {
            System.exit(1);
        }
    }

    private static void wrong(String text) {
        wrong++;
        System.out.println(boundary + text);
    }
}

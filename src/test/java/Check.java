/** Compares answers with those that are due, and ends a test's main method. */
final class Check {
    static final int INVALID = -1;
    static final int NOT_POSSIBLE = -2;
    static final int LIMIT = -3;
    static final int NOT_FOUND = -4;

    private static final int MOST_TOLD = 40;

    private static int wrong = 0;
    private static int checked = 0;

    private Check() {
    }

    static void due(String what, long got, long want) {
        checked++;
        if (got != want) {
            tell(what + " answered " + got + ", due is " + want);
        }
    }

    static void due(String what, String got, String want) {
        checked++;
        if (!got.equals(want)) {
            tell(what + " is\n" + got + "\ndue is\n" + want);
        }
    }

    private static void tell(String fault) {
        wrong++;
        if (wrong <= MOST_TOLD) {
            System.out.println(fault);
        }
    }

    static void type(Counted x, String text) {
        for (int i = 0; i < text.length(); i++) {
            if (x.type(text.charAt(i)) < 0) {
                due("type of sign " + i + " of " + text, -1, i + 1);
            }
        }
    }

    /** Empties the text and types another one. */
    static void retype(Counted x, String text) {
        x.clearText();
        type(x, text);
    }

    static void end(String test) {
        System.out.println(test + ": " + checked + " checked, " + wrong + " wrong");
        if (wrong != 0) {
            System.exit(1);
        }
    }
}

/** Compares answers with those that are due, and ends a test's main method. */
final class Check {
    static final int INVALID = -1;
    static final int NOT_POSSIBLE = -2;
    static final int LIMIT = -3;
    static final int NOT_FOUND = -4;

    private static int wrong = 0;
    private static int checked = 0;

    private Check() {
    }

    static void due(String what, long got, long want) {
        checked++;
        if (got != want) {
            wrong++;
            System.out.println(what + " answered " + got + ", due is " + want);
        }
    }

    static void due(String what, String got, String want) {
        checked++;
        if (!got.equals(want)) {
            wrong++;
            System.out.println(what + " answered " + got + ", due is " + want);
        }
    }

    static void type(RoughTables x, String text) {
        for (int i = 0; i < text.length(); i++) {
            if (x.type(text.charAt(i)) < 0) {
                due("type of sign " + i + " of " + text, -1, i + 1);
            }
        }
    }

    /** Empties the text and types another one. */
    static void retype(RoughTables x, String text) {
        x.clearText();
        type(x, text);
    }

    /** All that can be asked of an object, as one text. */
    static String all(RoughTables x) {
        StringBuilder out = new StringBuilder();
        for (int what = 0; what < 8; what++) {
            out.append(x.count(what)).append(' ');
        }
        for (int table = 0; table < x.count(0); table++) {
            out.append("\ntable");
            for (int what = 0; what < 10; what++) {
                out.append(' ').append(x.tableOf(table, what));
            }
            for (int i = 0; i < 32; i++) {
                out.append(' ').append(x.keptAt(table, i));
            }
            for (int i = 0; x.sawAt(table, i, 0) >= 0; i++) {
                out.append(' ').append(x.sawAt(table, i, 0)).append('@').append(x.sawAt(table, i, 1));
            }
        }
        for (int i = 0; i < 9; i++) {
            out.append("\nlog ").append(x.logAt(i, 0)).append(' ').append(x.logAt(i, 1)).append(' ').append(x.logAt(i, 2));
        }
        return out.toString();
    }

    static void end(String test) {
        System.out.println(test + ": " + checked + " checked, " + wrong + " wrong");
        if (wrong != 0) {
            System.exit(1);
        }
    }
}

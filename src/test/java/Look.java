/**
 * All that can be seen of a state: the tables, the time, the log, the text and each state of the history. It takes more
 * calls than one object has, so the script that leads to the state is done again for each part.
 */
final class Look {
    private static final int THINGS_AT_ONCE = 50;

    private Look() {
    }

    /** Tells as wrong where the states that the two scripts lead to are unlike. */
    static void same(String what, Script one, Script other) {
        Check.due(what, all(one), all(other));
    }

    static String all(Script script) {
        Counted x = Script.fresh(script);
        StringBuilder out = new StringBuilder();
        out.append("text ").append(x.count(7)).append(" history ").append(x.count(6));
        for (int what = 0; what < 3; what++) {
            out.append(' ').append(x.fault(what));
        }
        out.append('\n').append(state(script));
        int states = Math.min(x.count(6), 4);
        for (int back = 1; back <= states; back++) {
            out.append("\nback ").append(back).append('\n').append(state(Script.both(script, undone(back))));
        }
        int played = x.play();
        out.append("\nplayed ").append(played).append('\n');
        if (played > 0) {
            out.append(state(Script.both(script, y -> y.play())));
        }
        return out.toString();
    }

    private static Script undone(int times) {
        return x -> {
            for (int i = 0; i < times; i++) {
                x.undo();
            }
        };
    }

    /** All but the text and the history. */
    static String state(Script script) {
        StringBuilder out = new StringBuilder();
        Counted x = Script.fresh(script);
        int tables = Math.min(x.count(0), 6);
        for (int what = 0; what < 6; what++) {
            out.append(x.count(what)).append(' ');
        }
        for (int place = 0; place < 7; place++) {
            out.append(x.byError(place)).append(' ');
        }
        for (int index = 0; index < 9; index++) {
            out.append("\nlog ").append(x.logAt(index, 0)).append(' ').append(x.logAt(index, 1)).append(' ')
                .append(x.logAt(index, 2));
        }
        for (int table = 0; table < tables; table++) {
            out.append('\n').append(table(script, table));
        }
        return out.toString();
    }

    static String table(Script script, int table) {
        Counted x = Script.fresh(script);
        StringBuilder out = new StringBuilder();
        out.append(x.errorBits(table)).append(' ').append(x.raises(table));
        for (int what = 0; what < 10; what++) {
            out.append(' ').append(x.tableOf(table, what));
        }
        out.append(" keeps");
        for (int index = 0; index < 33; index++) {
            out.append(' ').append(x.keptAt(table, index));
        }
        out.append(" saw");
        int things = Math.min(x.tableOf(table, 3), 1000);
        for (int from = 0; from < things; from += THINGS_AT_ONCE) {
            Counted y = Script.fresh(script);
            for (int index = from; index < from + THINGS_AT_ONCE; index++) {
                out.append(' ').append(y.sawAt(table, index, 0)).append('@').append(y.sawAt(table, index, 1));
            }
        }
        return out.toString();
    }
}

/** The fixed limits, each reached exactly, gone beyond, and left again. */
public final class LimitsTest {
    public static void main(String[] args) {
        sixTables();
        timeByAdd();
        timeByRows();
        timeByText();
        noTimeIsLeft();
        thingsGoOnPast999();
        longestRow();
        additionsByAdd();
        additionsByRow();
        additionsByMerge();
        logOfEight();
        historyOfFour();
        eachChangeIsRecorded();
        changesThatDoNothing();
        noChangesAreRecorded();
        changesAfterUndo();
        textOf80();
        call512();
        Check.end("LimitsTest");
    }

    /** "There are at most 6 tables, numbered from 0." */
    private static void sixTables() {
        Counted x = new Counted();
        for (int i = 0; i < 6; i++) {
            Check.due("table " + i + " is not there yet", x.tableOf(i, 0), Check.INVALID);
            Check.due("its number", x.table(i % 3, i), i);
            Check.due("table " + i + " is there", x.tableOf(i, 1), i);
            Check.due("tables", x.count(0), i + 1);
        }
        Check.due("a seventh", x.table(2, 9), Check.LIMIT);
        Check.due("table 6", x.tableOf(6, 0), Check.INVALID);
        Check.due("tables", x.count(0), 6);
        Check.due("undo", x.undo(), 3);
        Check.due("tables", x.count(0), 5);
        Check.due("a sixth again", x.table(2, 9), 5);
        Check.retype(x, "k0,0;");
        Check.due("a seventh by text", x.fault(2), Check.LIMIT);
        for (int i = 0; i < 4; i++) {
            x.undo();
        }
        Check.due("tables", x.count(0), 2);
        Check.retype(x, "k1,2;k1,2;k1,2;k1,2;k1,2;");
        Check.due("a seventh after four", x.fault(0), 20);
        Check.retype(x, "k1,2;k1,2;k1,2;k1,2;");
        Check.due("four more", x.play(), 4);
        Check.due("tables", x.count(0), 6);
        Check.due("a seventh", x.table(0, 0), Check.LIMIT);
    }

    private static Counted at(int time) {
        Counted x = new Counted();
        x.table(0, 2);
        Scenes.atTime(x, time);
        Check.due("the time", x.count(1), time);
        return x;
    }

    /** "LIMIT_REACHED if the time is 20000." */
    private static void timeByAdd() {
        Counted x = at(19998);
        x.table(1, 2);
        Check.due("at 19998", x.add(1, 5), 1);
        Check.due("at 19999", x.add(1, 6), 2);
        Check.due("the time", x.count(1), 20000);
        Check.due("the last time", x.sawAt(1, 1, 1), 19999);
        Check.due("at 20000", x.add(1, 7), Check.LIMIT);
        Check.due("a thing seen already", x.add(1, 5), Check.LIMIT);
        Check.due("the other table", x.add(0, 7), Check.LIMIT);
        Check.due("nothing was added", x.tableOf(1, 7), 2);
        Check.due("the time", x.count(1), 20000);
        x.undo();
        Check.due("at 19999 again", x.add(1, 7), 2);
    }

    /** "LIMIT_REACHED if the time would be above 20000." */
    private static void timeByRows() {
        for (int left : new int[] {1, 2, 50, 99, 100}) {
            Counted x = at(20000 - left);
            if (left < 100) {
                Check.due("one too many", x.addRow(0, 0, 1, left + 1), Check.LIMIT);
            }
            Check.due("the time stays", x.count(1), 20000 - left);
            Check.due("as many as are left", x.addRow(0, 0, 1, left) >= 0 ? 1 : 0, 1);
            Check.due("the time", x.count(1), 20000);
            Check.due("none is left", x.addRow(0, 0, 1, 1), Check.LIMIT);
        }
    }

    private static void timeByText() {
        Counted x = at(19990);
        Check.retype(x, "s0,0,1,11;");
        Check.due("a row of 11", x.fault(2), Check.LIMIT);
        Check.retype(x, "s0,0,1,9;a0,5;a0,5;");
        Check.due("the second add", x.fault(0), 14);
        Check.due("its cause", x.fault(2), Check.LIMIT);
        Check.retype(x, "s0,0,1,9;a0,5;");
        Check.due("up to the limit", x.play(), 2);
        Check.due("the time", x.count(1), 20000);
        Check.due("not once more", x.play(), Check.NOT_POSSIBLE);
        Check.due("its place", x.fault(0), 0);
    }

    /** At the time 20000 all but adding goes on. */
    private static void noTimeIsLeft() {
        Counted x = at(20000);
        Check.due("a table", x.table(0, 2), 1);
        Check.due("would", x.would(1, 3), 1);
        Check.due("a merge", x.merge(1, 0), x.tableOf(0, 2));
        Check.due("a reset", x.reset(0), x.tableOf(1, 3));
        Check.retype(x, "k1,1;m0,1;z1;");
        Check.due("a text", x.play(), 3);
        Check.due("the time", x.count(1), 20000);
        Check.due("no add", x.add(0, 0), Check.LIMIT);
    }

    /** "Each next one is greater by the step (modulo 1000)." */
    private static void thingsGoOnPast999() {
        int[][] rows = {{999, 1, 2}, {999, 999, 3}, {500, 500, 3}, {0, 999, 100}, {990, 7, 100}, {1, 0, 5}, {999, 0, 2},
            {998, 1, 1}, {0, 10, 100}, {5, 10, 100}, {333, 334, 4}};
        for (int[] row : rows) {
            Counted x = new Counted();
            x.table(0, 0);
            x.addRow(0, row[0], row[1], row[2]);
            int[] times = new int[1000];
            int seen = 0;
            for (int i = row[2] - 1; i >= 0; i--) {
                int thing = (row[0] + i * row[1]) % 1000;
                seen += times[thing] == 0 ? 1 : 0;
                times[thing] = i + 1;
            }
            Check.due("exact", x.tableOf(0, 3), seen);
            int index = 0;
            for (int thing = 0; thing < 1000; thing++) {
                if (times[thing] > 0) {
                    Check.due("the thing", x.sawAt(0, index, 0), thing);
                    Check.due("its time", x.sawAt(0, index, 1), times[thing] - 1);
                    index++;
                }
            }
        }
        Counted x = new Counted();
        x.table(0, 0);
        Check.retype(x, "s0,999,1,2;");
        x.play();
        Check.due("by text", x.has(0, 0, 0), 1);
    }

    private static void longestRow() {
        Counted x = new Counted();
        x.table(1, 1);
        Check.due("none", x.addRow(0, 0, 1, 0), Check.INVALID);
        Check.due("one", x.addRow(0, 0, 1, 1), 1);
        Check.due("the time", x.count(1), 1);
        x.addRow(0, 0, 1, 100);
        Check.due("the time", x.count(1), 101);
        Check.due("exact", x.tableOf(0, 3), 100);
        Check.due("101", x.addRow(0, 0, 1, 101), Check.INVALID);
        Check.due("the time", x.count(1), 101);
    }

    /** Table 0 of three comes to exactly so many additions: tables 1 and 2 are doubled, and merged in where a bit is set. */
    private static Counted withAdditions(int many) {
        Counted x = new Counted();
        for (int i = 0; i < 3; i++) {
            x.table(0, 0);
        }
        x.add(1, 1);
        for (int rest = many; rest > 0; rest /= 2) {
            if (rest % 2 == 1) {
                x.merge(0, 1);
            }
            x.reset(2);
            x.merge(2, 1);
            x.merge(1, 2);
        }
        Check.due("additions", x.tableOf(0, 7), many);
        return x;
    }

    /** "But it is at most 1000000000." */
    private static void additionsByAdd() {
        Counted x = withAdditions(999999998);
        int[] due = {999999999, 1000000000, 1000000000, 1000000000};
        for (int additions : due) {
            x.add(0, 1);
            Check.due("additions", x.tableOf(0, 7), additions);
            Check.due("high", x.tableOf(0, 5), 1000);
            Check.due("would", x.would(0, 1), 1);
        }
        Check.due("a new thing is added all the same", x.add(0, 2), 2);
        Check.due("exact", x.tableOf(0, 3), 2);
        Check.due("additions", x.tableOf(0, 7), 1000000000);
        x.reset(0);
        Check.due("without additions", x.tableOf(0, 7), 0);
    }

    private static void additionsByRow() {
        Counted x = withAdditions(999999990);
        x.addRow(0, 1, 0, 9);
        Check.due("additions", x.tableOf(0, 7), 999999999);
        x.undo();
        x.addRow(0, 1, 0, 10);
        Check.due("additions", x.tableOf(0, 7), 1000000000);
        x.undo();
        x.addRow(0, 1, 0, 11);
        Check.due("additions", x.tableOf(0, 7), 1000000000);
        x.undo();
        x.addRow(0, 1, 1, 100);
        Check.due("additions", x.tableOf(0, 7), 1000000000);
        Check.due("exact", x.tableOf(0, 3), 100);
        x.undo();
        Check.retype(x, "s0,1,0,9;a0,1;a0,1;");
        x.play();
        Check.due("additions by text", x.tableOf(0, 7), 1000000000);
    }

    /** "Additions are added up (to 1000000000 at most)." */
    private static void additionsByMerge() {
        Counted x = withAdditions(999999990);
        x.reset(1);
        x.addRow(1, 1, 0, 9);
        x.merge(0, 1);
        Check.due("additions", x.tableOf(0, 7), 999999999);
        x.undo();
        x.add(1, 1);
        x.merge(0, 1);
        Check.due("additions", x.tableOf(0, 7), 1000000000);
        Check.due("the other one's", x.tableOf(1, 7), 10);
        x.merge(0, 1);
        Check.due("not more", x.tableOf(0, 7), 1000000000);
        x.merge(1, 0);
        Check.due("the other one's", x.tableOf(1, 7), 1000000000);
        x.merge(1, 0);
        x.merge(0, 1);
        Check.due("of both at the limit", x.tableOf(0, 7), 1000000000);
        Check.due("both with itself", x.both(0, 0, 0), 1);
        Check.due("high", x.tableOf(0, 5), 1000);
    }

    /** "Are put into the log (the latest 8 are kept)." */
    private static void logOfEight() {
        Counted x = new Counted();
        x.table(1, 0);
        x.table(1, 0);
        Check.due("none", x.logAt(0, 0), Check.NOT_FOUND);
        for (int resets = 1; resets <= 20; resets++) {
            int table = resets % 3 == 0 ? 1 : 0;
            x.addRow(table, 0, 1, resets);
            Check.due("exact", x.reset(table), resets);
            int kept = Math.min(resets, 8);
            Check.due("resets in the log", x.count(4), kept);
            Check.due("the latest one", x.logAt(0, 2), resets);
            Check.due("the latest one's table", x.logAt(0, 0), table);
            Check.due("the oldest one kept", x.logAt(kept - 1, 2), resets - kept + 1);
            Check.due("the oldest one's table", x.logAt(kept - 1, 0), (resets - kept + 1) % 3 == 0 ? 1 : 0);
            Check.due("none older", x.logAt(kept, 2), Check.NOT_FOUND);
        }
        Check.due("how often", x.tableOf(0, 8), 14);
        Check.due("how often", x.tableOf(1, 8), 6);
        for (int i = 0; i < 4; i++) {
            x.undo();
        }
        Check.due("two resets undone", x.logAt(0, 2), 18);
        Check.due("those dropped are back", x.logAt(7, 2), 11);
        Check.due("how often", x.tableOf(1, 8), 6);
        Check.due("how often", x.tableOf(0, 8), 12);
    }

    /** "If there are 5 states then, the oldest one is dropped." */
    private static void historyOfFour() {
        for (int changes = 0; changes <= 9; changes++) {
            Counted x = new Counted();
            x.table(0, 0);
            x.undo();
            for (int i = 0; i < changes; i++) {
                if (i == 0) {
                    x.table(0, 0);
                } else {
                    x.add(0, i);
                }
                Check.due("states", x.count(6), Math.min(i + 1, 4));
            }
            int states = Math.min(changes, 4);
            for (int left = states - 1; left >= 0; left--) {
                Check.due("states left", x.undo(), left);
                Check.due("states", x.count(6), left);
            }
            Check.due("none is left", x.undo(), Check.NOT_POSSIBLE);
            Check.due("none is left still", x.undo(), Check.NOT_POSSIBLE);
            Check.due("tables", x.count(0), changes > 4 ? 1 : 0);
            Check.due("the time", x.count(1), Math.max(0, changes - 5));
        }
    }

    /** "The changes are the calls of table, add, addRow, merge, reset and play that return no error." */
    private static void eachChangeIsRecorded() {
        Script before = x -> {
            x.table(1, 4);
            x.table(1, 4);
            x.addRow(0, 0, 3, 20);
            x.addRow(1, 1, 2, 30);
            Check.type(x, "z0;a1,999;");
            x.reset(1);
        };
        Script[] changes = {x -> x.table(2, 3), x -> x.add(0, 7), x -> x.addRow(1, 5, 5, 50), x -> x.merge(0, 1),
            x -> x.merge(1, 0), x -> x.reset(0), x -> x.reset(1), x -> x.play()};
        String names = "table add addRow merge merge reset reset play";
        for (int i = 0; i < changes.length; i++) {
            String name = names.split(" ")[i];
            Counted x = new Counted();
            x.table(1, 4);
            x.table(1, 4);
            x.type('k');
            x.clearText();
            Check.type(x, "z0;");
            changes[i].on(x);
            Check.due(name + " is recorded once", x.count(6), 3);
            Script undone = Script.both(Script.both(before, changes[i]), y -> Check.due("left", y.undo(), 3));
            Check.due(name + " undone", Look.state(undone), Look.state(before));
            Script again = Script.both(undone, changes[i]);
            Check.due(name + " done again", Look.state(again), Look.state(Script.both(before, changes[i])));
        }
    }

    /** A change that leaves all as it was is one all the same. */
    private static void changesThatDoNothing() {
        Counted x = new Counted();
        Check.due("a play of nothing", x.play(), 0);
        Check.due("is recorded", x.count(6), 1);
        x.table(0, 0);
        x.table(0, 0);
        Check.due("a merge of empty ones", x.merge(0, 1), 0);
        Check.due("is recorded", x.count(6), 4);
        for (int i = 0; i < 4; i++) {
            Check.due("a play of nothing", x.play(), 0);
        }
        for (int i = 3; i >= 0; i--) {
            Check.due("undo", x.undo(), i);
        }
        Check.due("the tables stay", x.count(0), 2);
    }

    private static void noChangesAreRecorded() {
        Counted x = new Counted();
        x.type('k');
        x.clearText();
        x.fault(0);
        x.table(3, 0);
        x.add(0, 0);
        x.merge(0, 0);
        x.reset(0);
        x.undo();
        Check.retype(x, "z");
        x.play();
        Check.due("states", x.count(6), 0);
        x.table(0, 0);
        x.would(0, 3);
        x.both(0, 0, 0);
        x.raises(0);
        Check.due("states", x.count(6), 1);
        Check.due("the text stays", x.count(7), 1);
        x.undo();
        Check.due("the text stays when undone", x.count(7), 1);
        Check.due("an undo is not recorded", x.count(6), 0);
    }

    private static void changesAfterUndo() {
        Counted x = new Counted();
        x.table(1, 0);
        for (int thing = 1; thing <= 6; thing++) {
            x.add(0, thing);
        }
        x.undo();
        x.undo();
        Check.due("exact", x.tableOf(0, 3), 4);
        x.add(0, 50);
        Check.due("states", x.count(6), 3);
        x.add(0, 51);
        x.add(0, 52);
        Check.due("states", x.count(6), 4);
        int[] exact = {6, 5, 4, 3};
        for (int i = 0; i < 4; i++) {
            x.undo();
            Check.due("exact", x.tableOf(0, 3), exact[i]);
            Check.due("the time", x.count(1), exact[i]);
        }
        Check.due("no more", x.undo(), Check.NOT_POSSIBLE);
        Check.due("4 is not seen", x.has(0, 4, 0), 0);
        Check.due("3 is seen", x.has(0, 3, 0), 1);
    }

    /** "There is a text of at most 80 characters, initially empty." */
    private static void textOf80() {
        Counted x = new Counted();
        Check.due("empty", x.count(7), 0);
        Check.due("nothing to clear", x.clearText(), 0);
        for (int i = 1; i <= 80; i++) {
            Check.due("length", x.type(i % 5 == 0 ? ';' : "k1,3".charAt(i % 5 - 1)), i);
        }
        Check.due("81", x.type(';'), Check.LIMIT);
        Check.due("its length", x.count(7), 80);
        Check.due("the seventh table", x.fault(0), 30);
        Check.due("cleared", x.clearText(), 80);
        Check.due("empty", x.count(7), 0);
        Check.due("no fault", x.fault(0), Check.NOT_FOUND);
        Check.due("the first sign again", x.type('z'), 1);
        Check.due("what was cleared is gone", x.fault(1), 1);
        x.type('0');
        x.type(';');
        Check.due("a table there is not", x.fault(1), 2);
    }

    /** "An object is used for at most 512 calls": the last of them is answered as the others are. */
    private static void call512() {
        Counted x = new Counted();
        x.table(1, 3);
        int thing = 0;
        while (x.callsLeft() > 4) {
            x.add(0, thing++);
        }
        Check.due("exact", x.tableOf(0, 3), 507);
        Check.due("the time", x.count(1), 507);
        x.addRow(0, thing, 1, 100);
        Check.due("call 512", x.sawAt(0, 606, 1), 606);
    }
}

/** Promises 14 to 19: errors, what would be, and undo. */
public final class ErrorsTest {
    public static void main(String[] args) {
        errorBits();
        errorBitsOfMany();
        byError();
        would();
        raises();
        both();
        bothWithItself();
        bothLess();
        undo();
        undoRestoresAll();
        Check.end("ErrorsTest");
    }

    private static void errorBits() {
        Counted x = new Counted();
        x.table(1, 1);
        Check.due("nothing seen", x.errorBits(0), Check.NOT_FOUND);
        Check.due("errorBits(-1)", x.errorBits(-1), Check.INVALID);
        Check.due("errorBits(1)", x.errorBits(1), Check.INVALID);
        Check.due("errorBits(greatest)", x.errorBits(Integer.MAX_VALUE), Check.INVALID);
        x.add(0, 3);
        Check.due("error 0", x.errorBits(0), 0);
        x.reset(0);
        x.addRow(0, 5, 7, 20);
        Check.due("-4 / 20", x.errorBits(0), -1102263091);
        x.reset(0);
        Check.due("after a reset", x.errorBits(0), Check.NOT_FOUND);
    }

    private static void errorBitsOfMany() {
        int above = 0;
        int below = 0;
        for (int kind = 0; kind < 3; kind++) {
            for (int seed = 0; seed < 9; seed += 4) {
                Counted x = new Counted();
                x.table(kind, seed);
                for (int i = 0; i < 120; i++) {
                    x.addRow(0, i * 37 % 1000, 1 + i % 3, 1 + i % 5);
                    int error = x.tableOf(0, 6) - 1000;
                    int exact = x.tableOf(0, 3);
                    int due = Float.floatToIntBits((float) error / (float) exact);
                    Check.due(error + " / " + exact, x.errorBits(0), due);
                    above += error > 0 ? 1 : 0;
                    below += error < 0 ? 1 : 0;
                }
            }
        }
        Check.due("errors above 0", above > 20 ? 1 : 0, 1);
        Check.due("errors below 0", below > 20 ? 1 : 0, 1);
    }

    private static void byError() {
        Counted x = new Counted();
        Check.due("no tables", x.byError(0), Check.NOT_FOUND);
        Check.due("no tables, -1", x.byError(-1), Check.INVALID);
        x.table(0, 1);
        x.table(1, 1);
        x.table(2, 1);
        x.table(1, 1);
        for (int i = 0; i < 3; i++) {
            x.addRow(i, 5, 7, 20);
        }
        // The errors are -2, -4, -2 and 0.
        int[] due = {1, 0, 2, 3};
        for (int i = 0; i < 4; i++) {
            Check.due("byError(" + i + ")", x.byError(i), due[i]);
        }
        Check.due("byError(4)", x.byError(4), Check.NOT_FOUND);
        Check.due("byError(greatest)", x.byError(Integer.MAX_VALUE), Check.NOT_FOUND);
        Check.due("byError(-1)", x.byError(-1), Check.INVALID);
        Check.due("byError(least)", x.byError(Integer.MIN_VALUE), Check.INVALID);
        x.table(1, 0);
        x.table(1, 0);
        for (int thing = 0; x.tableOf(4, 6) <= 1002; thing++) {
            x.add(4, 19 + thing % 80);
        }
        Check.due("an error above 0 goes by its size", x.byError(1), 4);
    }

    private static void would() {
        Counted x = new Counted();
        x.table(0, 0);
        x.table(1, 0);
        x.table(2, 0);
        for (int table = 0; table < 3; table++) {
            for (int i = 0; i < 40; i++) {
                int thing = i * 53 % 1000;
                int told = x.tableOf(table, 2);
                int due = x.would(table, thing);
                Check.due("what is told stays", x.tableOf(table, 2), told);
                Check.due("would", due, x.add(table, thing));
            }
        }
        Counted y = new Counted();
        y.table(2, 2);
        Check.due("of an empty one", y.would(0, 227), 1);
        Check.due("nothing is added", y.tableOf(0, 7), 0);
        Check.due("no time", y.count(1), 0);
        int[][] wrong = {{-1, 0}, {1, 0}, {0, -1}, {0, 1000}, {Integer.MAX_VALUE, 0}, {0, Integer.MIN_VALUE}};
        for (int[] w : wrong) {
            Check.due("would(" + w[0] + ", " + w[1] + ")", y.would(w[0], w[1]), Check.INVALID);
        }
        // One addition more lifts the high bound, so that the same thing again can be told higher.
        Counted z = new Counted();
        z.table(0, 0);
        z.table(0, 0);
        z.addRow(0, 0, 1, 9);
        int again = 0;
        for (int thing = 0; thing < 60 && again == 0; thing++) {
            z.add(1, thing);
            if (z.tableOf(1, 9) > z.tableOf(1, 5)) {
                again = 1;
                Check.due("lifted", z.would(1, thing), z.tableOf(1, 2) + 1);
            }
        }
        Check.due("a rough count above the additions", again, 1);
    }

    private static void raises() {
        Counted x = new Counted();
        Check.due("no table", x.raises(0), Check.INVALID);
        for (int kind = 0; kind < 3; kind++) {
            x.table(kind, 0);
            Check.due("empty", x.raises(kind), 0);
            x.add(kind, 0);
            Check.due("with 0", x.raises(kind), 1);
            x.addRow(kind, 1, 1, 5);
        }
        Check.due("raises(-1)", x.raises(-1), Check.INVALID);
        Check.due("raises(3)", x.raises(3), Check.INVALID);
        // 6 lights bit 13, but has the register of 1 with the same rank; 7 has register 7.
        Check.due("bits of 0 to 5", x.raises(0), 6);
        Check.due("hashes of 0 to 5", x.raises(1), 6);
        Check.due("registers of 0 to 5", x.raises(2), 7);
        for (int kind = 0; kind < 3; kind++) {
            for (int row = 0; row < 10; row++) {
                x.addRow(kind, row * 100, 1, 100);
            }
            Check.due("all things seen, kind " + kind, x.raises(kind), Check.NOT_FOUND);
        }
        x.table(1, 0);
        for (int thing = 0; thing < 1000; thing++) {
            if (RoughModel.hashOf(thing, 0) < 600) {
                x.add(3, thing);
            }
        }
        int raised = x.raises(3);
        Check.due("there is one", raised >= 0 ? 1 : 0, 1);
        Check.due("it would be kept", x.has(3, raised, 1), 0);
        for (int thing = 0; thing < raised; thing++) {
            Check.due("none is lower", x.has(3, thing, 1), 1);
        }
    }

    private static void both() {
        Counted x = new Counted();
        x.table(1, 0);
        x.table(1, 0);
        x.table(1, 2);
        x.table(2, 0);
        x.addRow(0, 0, 1, 10);
        x.addRow(1, 5, 1, 10);
        x.addRow(2, 8, 1, 4);
        int[] due = {14, 15, 3, 5};
        for (int what = 0; what < 4; what++) {
            Check.due("both(0, 1, " + what + ")", x.both(0, 1, what), due[what]);
            Check.due("both(1, 0, " + what + ")", x.both(1, 0, what), due[what]);
        }
        for (int what = 0; what < 4; what += 2) {
            Check.due("unlike seeds", x.both(0, 2, what), Check.NOT_POSSIBLE);
            Check.due("unlike kinds", x.both(0, 3, what), Check.NOT_POSSIBLE);
            Check.due("unlike kinds", x.both(3, 0, what), Check.NOT_POSSIBLE);
        }
        Check.due("one of unlike ones", x.both(0, 2, 1), 12);
        Check.due("both unlike ones", x.both(0, 2, 3), 2);
        Check.due("one of them is empty", x.both(3, 0, 1), 10);
        Check.due("one of them is empty", x.both(3, 0, 3), 0);
        int[][] wrong = {{-1, 0, 0}, {4, 0, 0}, {0, -1, 0}, {0, 4, 0}, {0, 1, -1}, {0, 1, 4}, {0, 2, 4}, {0, 3, -1},
            {0, Integer.MAX_VALUE, 1}};
        for (int[] w : wrong) {
            Check.due("both(" + w[0] + ", " + w[1] + ", " + w[2] + ")", x.both(w[0], w[1], w[2]), Check.INVALID);
        }
        Check.due("merged", x.merge(0, 1), 14);
    }

    private static void bothWithItself() {
        Counted x = new Counted();
        x.table(0, 0);
        int high = 0;
        for (int thing = 0; thing < 60 && high == 0; thing++) {
            x.add(0, thing);
            if (x.tableOf(0, 9) > x.tableOf(0, 5)) {
                high = 1;
                Check.due("additions count twice", x.both(0, 0, 0), x.tableOf(0, 9));
                Check.due("less", x.both(0, 0, 2), 2 * x.tableOf(0, 2) - x.tableOf(0, 9));
            }
        }
        Check.due("a rough count above the additions", high, 1);
        Check.due("one of both", x.both(0, 0, 1), x.tableOf(0, 3));
        Check.due("both", x.both(0, 0, 3), x.tableOf(0, 3));
    }

    /** What both tell together less the merged count can be below 0: it is told as 0 then. */
    private static void bothLess() {
        Counted x = new Counted();
        x.table(1, 0);
        x.table(1, 0);
        // Four of the smallest hashes in each: each tells 4, together they tell many.
        int put = 0;
        for (int thing = 0; thing < 1000 && put < 8; thing++) {
            if (RoughModel.hashOf(thing, 0) < 1000) {
                x.add(put % 2, thing);
                put++;
            }
        }
        Check.due("eight small hashes", put, 8);
        x.addRow(0, x.sawAt(0, 0, 0), 0, 100);
        Check.due("one tells", x.tableOf(0, 2), 4);
        Check.due("the other tells", x.tableOf(1, 2), 4);
        Check.due("merged", x.both(0, 1, 0), 108);
        Check.due("less", x.both(0, 1, 2), 0);
    }

    private static void undo() {
        Counted x = new Counted();
        Check.due("nothing to undo", x.undo(), Check.NOT_POSSIBLE);
        x.table(0, 0);
        x.add(0, 1);
        x.addRow(0, 2, 1, 2);
        x.reset(0);
        Check.due("states", x.count(6), 4);
        x.add(0, 9);
        Check.due("the oldest is dropped", x.count(6), 4);
        Check.due("the add", x.undo(), 3);
        Check.due("exact", x.tableOf(0, 3), 0);
        Check.due("resets", x.tableOf(0, 8), 1);
        Check.due("the reset", x.undo(), 2);
        Check.due("exact", x.tableOf(0, 3), 3);
        Check.due("log", x.count(4), 0);
        Check.due("the row", x.undo(), 1);
        Check.due("time", x.count(1), 1);
        Check.due("the first add", x.undo(), 0);
        Check.due("time", x.count(1), 0);
        Check.due("the table stays", x.count(0), 1);
        Check.due("no more", x.undo(), Check.NOT_POSSIBLE);
        Check.due("the table stays", x.count(0), 1);
        x.table(1, 4);
        Check.due("the table", x.undo(), 0);
        Check.due("table 1 is gone", x.tableOf(1, 0), Check.INVALID);
        Check.due("made anew", x.table(2, 5), 1);
        Check.due("its kind", x.tableOf(1, 0), 2);
        Check.due("nothing seen", x.tableOf(1, 3), 0);
        Check.due("an error records nothing", x.add(5, 0), Check.INVALID);
        Check.due("states", x.count(6), 1);
    }

    private static void undoRestoresAll() {
        Script before = x -> {
            for (int i = 0; i < 5; i++) {
                x.table(i % 3, i / 3);
                x.addRow(i, 31 * i, 7, 30 + i);
            }
            x.table(0, 0);
            Check.type(x, "s5,1,3,50;k0,0");
        };
        Script after = x -> {
            before.on(x);
            x.reset(2);
            x.merge(0, 5);
            x.addRow(1, 0, 1, 100);
            x.add(4, 777);
            x.type('x');
            for (int left = 3; left >= 0; left--) {
                Check.due("left", x.undo(), left);
            }
        };
        Check.due("all but the text", Look.state(after), Look.state(before));
        Counted x = Script.fresh(after);
        Check.due("the text is not undone", x.count(7), 15);
        x.clearText();
        Check.due("clearText is no change", x.count(6), 0);
    }
}

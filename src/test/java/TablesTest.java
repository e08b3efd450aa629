/** Promises 1 to 6: a new object and the calls that change tables. */
public final class TablesTest {
    public static void main(String[] args) {
        newObject();
        table();
        add();
        addWithKind0();
        addWithKind1();
        addWithKind2();
        addRow();
        timeLimit();
        merge();
        mergeKeepsEarlierTimes();
        mergeOfFew();
        mergeOfEachKind();
        additionsLimit();
        reset();
        resetOfEachKind();
        tableAnewAfterUndo();
        Check.end("TablesTest");
    }

    private static void newObject() {
        Counted x = new Counted();
        for (int what = 0; what < 8; what++) {
            Check.due("new: count(" + what + ")", x.count(what), 0);
        }
        Check.due("new: tableOf(0, 0)", x.tableOf(0, 0), Check.INVALID);
        Check.due("new: logAt(0, 0)", x.logAt(0, 0), Check.NOT_FOUND);
        Check.due("new: undo", x.undo(), Check.NOT_POSSIBLE);
        Check.due("new: clearText", x.clearText(), 0);
        Check.due("new: byError(0)", x.byError(0), Check.NOT_FOUND);
        Counted other = new Counted();
        x.table(0, 0);
        Check.due("another object", other.count(0), 0);
    }

    private static void table() {
        Counted x = new Counted();
        int[][] wrong = {{-1, 0}, {3, 0}, {0, -1}, {0, 10}, {Integer.MIN_VALUE, 0}, {0, Integer.MAX_VALUE}};
        for (int[] w : wrong) {
            Check.due("table(" + w[0] + ", " + w[1] + ")", x.table(w[0], w[1]), Check.INVALID);
        }
        Check.due("nothing made", x.count(0), 0);
        Check.due("nothing recorded", x.count(6), 0);
        int[][] right = {{0, 0}, {2, 9}, {1, 5}, {0, 9}, {2, 0}, {1, 0}};
        for (int i = 0; i < 6; i++) {
            Check.due("table " + i, x.table(right[i][0], right[i][1]), i);
            Check.due("tables", x.count(0), i + 1);
            Check.due("kind " + i, x.tableOf(i, 0), right[i][0]);
            Check.due("seed " + i, x.tableOf(i, 1), right[i][1]);
            for (int what = 2; what < 10; what++) {
                Check.due("new table, what " + what, x.tableOf(i, what), what == 6 ? 1000 : 0);
            }
        }
        Check.due("a seventh", x.table(0, 0), Check.LIMIT);
        Check.due("a seventh, wrong", x.table(0, 10), Check.INVALID);
        Check.due("a seventh, wrong kind", x.table(3, 0), Check.INVALID);
    }

    private static void add() {
        Counted x = new Counted();
        Check.due("add without tables", x.add(0, 0), Check.INVALID);
        x.table(1, 0);
        int[][] wrong = {{-1, 0}, {1, 0}, {6, 0}, {0, -1}, {0, 1000}, {Integer.MAX_VALUE, 0}, {0, Integer.MIN_VALUE}};
        for (int[] w : wrong) {
            Check.due("add(" + w[0] + ", " + w[1] + ")", x.add(w[0], w[1]), Check.INVALID);
        }
        Check.due("add(0, 0)", x.add(0, 0), 1);
        Check.due("add(0, 999)", x.add(0, 999), 2);
        Check.due("add(0, 999) again", x.add(0, 999), 2);
        Check.due("additions", x.tableOf(0, 7), 3);
        Check.due("exact", x.tableOf(0, 3), 2);
        Check.due("time", x.count(1), 3);
        Check.due("states", x.count(6), 4);
        Check.due("time of 0", x.sawAt(0, 0, 1), 0);
        Check.due("time of 999 is its first one", x.sawAt(0, 1, 1), 1);
    }

    private static void addWithKind0() {
        Counted x = new Counted();
        x.table(0, 0);
        Check.due("first", x.add(0, 0), 1);
        Check.due("bit 19", x.keptAt(0, 19), 1);
        // Thing 16 lights bit 19 too: nothing new is kept, though the thing is new.
        Check.due("16", x.add(0, 16), 1);
        Check.due("exact", x.tableOf(0, 3), 2);
        Check.due("low", x.tableOf(0, 4), 1);
        for (int i = 0; i < 32; i++) {
            Check.due("bit " + i, x.keptAt(0, i), i == 19 ? 1 : 0);
        }
        // 1000 + 1032 + 1066 + 1103 + 1142 is 5343 for 5 bits: rough 5.
        int[] things = {1, 2, 3, 4};
        for (int thing : things) {
            x.add(0, thing);
        }
        Check.due("rough of 5 bits", x.tableOf(0, 9), 5);
        Check.due("low of 5 bits", x.tableOf(0, 4), 5);
        // All 32 bits: the sum of 32000 / k over 1 to 32 is 129863 with each quotient rounded down.
        for (int row = 0; row < 10; row++) {
            x.addRow(0, row * 100, 1, 100);
        }
        int sum = 0;
        for (int k = 1; k <= 32; k++) {
            sum += 32000 / k;
        }
        Check.due("all bits, rough", x.tableOf(0, 9), sum / 1000);
        Check.due("all bits, rough", x.tableOf(0, 9), 129);
        Check.due("all bits, told", x.tableOf(0, 2), 129);
        Check.due("all bits, low", x.tableOf(0, 4), 32);
        Check.due("all bits, error", x.tableOf(0, 6), 1000 + 129 - 1000);
    }

    private static void addWithKind1() {
        Counted x = new Counted();
        x.table(1, 0);
        for (int thing = 0; thing < 7; thing++) {
            Check.due("fewer than 8", x.add(0, thing), thing + 1);
        }
        // 458752 / (59611 + 1) is 7, and the low bound 8 is greater.
        Check.due("the eighth", x.add(0, 7), 8);
        Check.due("rough", x.tableOf(0, 9), 7);
        Check.due("low", x.tableOf(0, 4), 8);
        int[] kept = {11944, 25045, 27470, 31612, 40741, 45975, 49742, 59611};
        for (int i = 0; i < 8; i++) {
            Check.due("kept " + i, x.keptAt(0, i), kept[i]);
        }
        Check.due("51382 instead of 59611", x.add(0, 8), 8);
        Check.due("greatest", x.keptAt(0, 7), 51382);
        // 458752 / (40741 + 1) is 11, and the additions are 12 by then.
        Check.due("smaller ones", x.addRow(0, 17, 1, 3), 11);
        int[] then = {1809, 2665, 11944, 12352, 25045, 27470, 31612, 40741};
        for (int i = 0; i < 8; i++) {
            Check.due("then kept " + i, x.keptAt(0, i), then[i]);
        }
        Check.due("none more", x.keptAt(0, 8), Check.NOT_FOUND);
    }

    private static void addWithKind2() {
        Counted x = new Counted();
        x.table(2, 0);
        x.add(0, 0);
        x.add(0, 10);
        Check.due("register 5 of ranks 3 and 7", x.keptAt(0, 5), 7);
        x.add(0, 4);
        Check.due("rank 2 is less", x.keptAt(0, 5), 7);
        Check.due("low", x.tableOf(0, 4), 1);
        Check.due("rough of one register", x.tableOf(0, 9), 1);
        Counted y = new Counted();
        int[][] highest = {{227, 2, 5}, {82, 3, 6}, {453, 6, 0}, {758, 8, 7}};
        for (int i = 0; i < 4; i++) {
            y.table(2, highest[i][1]);
            y.add(i, highest[i][0]);
            Check.due("rank of 0, register " + highest[i][2], y.keptAt(i, highest[i][2]), 14);
        }
    }

    private static void addRow() {
        Counted x = new Counted();
        Check.due("addRow without tables", x.addRow(0, 0, 0, 1), Check.INVALID);
        x.table(1, 0);
        x.table(1, 0);
        int[][] wrong = {{-1, 0, 0, 1}, {2, 0, 0, 1}, {0, -1, 0, 1}, {0, 1000, 0, 1}, {0, 0, -1, 1}, {0, 0, 1000, 1},
            {0, 0, 0, 0}, {0, 0, 0, 101}, {0, 0, 0, -1}, {0, 0, 0, Integer.MAX_VALUE}, {0, Integer.MAX_VALUE, 0, 1},
            {0, 0, Integer.MIN_VALUE, 1}, {Integer.MIN_VALUE, 0, 0, 1}, {0, 0, 0, Integer.MIN_VALUE}};
        for (int[] w : wrong) {
            Check.due("addRow(" + w[0] + ", " + w[1] + ", " + w[2] + ", " + w[3] + ")",
                x.addRow(w[0], w[1], w[2], w[3]), Check.INVALID);
        }
        Check.due("addRow(0, 999, 999, 3)", x.addRow(0, 999, 999, 3), 3);
        int[] things = {997, 998, 999};
        for (int i = 0; i < 3; i++) {
            Check.due("thing " + i, x.sawAt(0, i, 0), things[i]);
            Check.due("time " + i, x.sawAt(0, i, 1), 2 - i);
        }
        Check.due("time", x.count(1), 3);
        Check.due("one change", x.count(6), 3);
        int told = x.addRow(1, 0, 1, 100);
        Check.due("what it tells then", told, x.tableOf(1, 2));
        Check.due("exact", x.tableOf(1, 3), 100);
        Check.due("additions", x.tableOf(1, 7), 100);
        Check.due("step 0", x.addRow(1, 0, 0, 100), x.tableOf(1, 2));
        Check.due("exact", x.tableOf(1, 3), 100);
        Check.due("additions", x.tableOf(1, 7), 200);
        Check.due("time of 99", x.sawAt(1, 99, 1), 102);
        Check.due("around the end", x.addRow(1, 998, 4, 2), x.tableOf(1, 2));
        Check.due("thing 2 came before", x.sawAt(1, 2, 1), 5);
        Check.due("thing 998", x.sawAt(1, 100, 0), 998);
    }

    private static void timeLimit() {
        Counted x = new Counted();
        x.table(0, 0);
        for (int i = 0; i < 199; i++) {
            x.addRow(0, i, 1, 100);
        }
        x.addRow(0, 0, 1, 95);
        Check.due("time", x.count(1), 19995);
        Check.due("6 more", x.addRow(0, 0, 1, 6), Check.LIMIT);
        Check.due("100 more", x.addRow(0, 0, 1, 100), Check.LIMIT);
        Check.due("101 more", x.addRow(0, 0, 1, 101), Check.INVALID);
        Check.due("no table", x.addRow(1, 0, 1, 100), Check.INVALID);
        Check.due("4 more", x.addRow(0, 0, 1, 4), x.tableOf(0, 2));
        Check.due("the last one", x.add(0, 5), x.tableOf(0, 2));
        Check.due("time", x.count(1), 20000);
        Check.due("one beyond", x.add(0, 5), Check.LIMIT);
        Check.due("a row of one beyond", x.addRow(0, 5, 0, 1), Check.LIMIT);
        Check.due("a wrong thing", x.add(0, 1000), Check.INVALID);
        Check.due("no table", x.add(1, 5), Check.INVALID);
        Check.due("would is told all the same", x.would(0, 5), x.tableOf(0, 2));
        Check.due("reset is possible", x.reset(0) > 0 ? 1 : 0, 1);
        Check.due("the time stays", x.count(1), 20000);
        Check.due("undo", x.undo(), 3);
        Check.due("undo", x.undo(), 2);
        Check.due("the time is back", x.count(1), 19999);
        Check.due("possible again", x.add(0, 7) > 0 ? 1 : 0, 1);
    }

    private static void merge() {
        Counted x = new Counted();
        Check.due("merge without tables", x.merge(0, 1), Check.INVALID);
        x.table(1, 0);
        x.table(1, 0);
        x.table(1, 1);
        x.table(2, 0);
        x.addRow(0, 0, 1, 10);
        x.addRow(1, 5, 1, 10);
        int[][] wrong = {{0, 0}, {3, 3}, {-1, 0}, {0, -1}, {4, 0}, {0, 4}, {-1, -1}, {4, 4}, {0, Integer.MAX_VALUE}};
        for (int[] w : wrong) {
            Check.due("merge(" + w[0] + ", " + w[1] + ")", x.merge(w[0], w[1]), Check.INVALID);
        }
        Check.due("unlike seeds", x.merge(0, 2), Check.NOT_POSSIBLE);
        Check.due("unlike kinds", x.merge(0, 3), Check.NOT_POSSIBLE);
        Check.due("both unlike", x.merge(3, 2), Check.NOT_POSSIBLE);
        Check.due("merge(0, 1)", x.merge(0, 1), 14);
        Check.due("exact", x.tableOf(0, 3), 15);
        Check.due("additions", x.tableOf(0, 7), 20);
        Check.due("the other one's exact", x.tableOf(1, 3), 10);
        Check.due("the other one's additions", x.tableOf(1, 7), 10);
        Check.due("the other one's greatest", x.keptAt(1, 7), 51382);
        Check.due("the time", x.count(1), 20);
        Check.due("states", x.count(6), 4);
        Check.due("undo", x.undo(), 3);
        Check.due("exact", x.tableOf(0, 3), 10);
    }

    private static void mergeKeepsEarlierTimes() {
        Counted x = new Counted();
        x.table(0, 4);
        x.table(0, 4);
        x.add(0, 7);
        x.add(1, 8);
        x.add(1, 7);
        x.add(0, 8);
        x.add(1, 9);
        x.merge(0, 1);
        int[] times = {0, 1, 4};
        for (int i = 0; i < 3; i++) {
            Check.due("thing", x.sawAt(0, i, 0), 7 + i);
            Check.due("time of " + (7 + i), x.sawAt(0, i, 1), times[i]);
        }
        Check.due("the other one's 7", x.sawAt(1, 0, 1), 2);
        x.merge(1, 0);
        Check.due("merged back, its 7", x.sawAt(1, 0, 1), 0);
        x.reset(0);
        x.add(0, 7);
        Check.due("since the reset", x.sawAt(0, 0, 1), 5);
    }

    /** Each of both has fewer than 8 hashes, or registers that the other one has not. */
    private static void mergeOfFew() {
        for (int kind = 0; kind < 3; kind++) {
            Counted x = new Counted();
            x.table(kind, 0);
            x.table(kind, 0);
            x.table(kind, 0);
            Check.due("two empty ones", x.merge(0, 1), 0);
            // 18 and 5 have the register 0 with the ranks 4 and 1.
            x.add(1, 18);
            x.add(1, 0);
            Check.due("into an empty one", x.merge(0, 1), 2);
            x.add(2, 5);
            x.add(2, 1);
            int low = kind == 2 ? 3 : 4;
            Check.due("of few", x.merge(2, 0), low);
            Check.due("low", x.tableOf(2, 4), low);
            Check.due("exact", x.tableOf(2, 3), 4);
            Check.due("thing 0 is seen", x.has(2, 0, 0), 1);
            Check.due("thing 18 is kept", x.has(2, 18, 1), 1);
            if (kind == 1) {
                int[] kept = {11944, 12352, 40741, 49742};
                for (int i = 0; i < 4; i++) {
                    Check.due("kept " + i, x.keptAt(2, i), kept[i]);
                }
                Check.due("no more", x.keptAt(2, 4), Check.NOT_FOUND);
            }
            if (kind == 2) {
                Check.due("register 0", x.keptAt(2, 0), 4);
                x.merge(0, 2);
                Check.due("register 0 stays", x.keptAt(0, 0), 4);
            }
        }
    }

    private static void mergeOfEachKind() {
        for (int kind = 0; kind < 3; kind++) {
            Counted x = new Counted();
            x.table(kind, 0);
            x.table(kind, 0);
            x.table(kind, 0);
            x.addRow(0, 0, 7, 40);
            x.addRow(1, 3, 11, 60);
            x.addRow(2, 0, 7, 40);
            x.addRow(2, 3, 11, 60);
            Check.due("merged, kind " + kind, x.merge(0, 1), x.tableOf(2, 2));
            for (int i = 0; i < 32; i++) {
                Check.due("kept " + i + " of kind " + kind, x.keptAt(0, i), x.keptAt(2, i));
            }
            for (int what = 0; what < 10; what++) {
                Check.due("tableOf " + what + " of kind " + kind, x.tableOf(0, what), x.tableOf(2, what));
            }
        }
    }

    private static void additionsLimit() {
        Counted x = new Counted();
        x.table(1, 0);
        x.table(1, 0);
        x.addRow(0, 0, 1, 100);
        x.addRow(1, 0, 1, 100);
        long one = 100;
        long other = 100;
        for (int i = 0; i < 30; i++) {
            x.merge(0, 1);
            one = Math.min(one + other, 1000000000);
            Check.due("additions of 0", x.tableOf(0, 7), one);
            x.merge(1, 0);
            other = Math.min(one + other, 1000000000);
            Check.due("additions of 1", x.tableOf(1, 7), other);
        }
        Check.due("the limit", x.tableOf(0, 7), 1000000000);
        x.add(0, 500);
        Check.due("one more", x.tableOf(0, 7), 1000000000);
        Check.due("the high bound", x.tableOf(0, 5), 1000);
        Check.due("would", x.would(0, 1), x.tableOf(0, 2));
        Check.due("both", x.both(0, 1, 0), x.tableOf(0, 2));
    }

    private static void reset() {
        Counted x = new Counted();
        Check.due("reset without tables", x.reset(0), Check.INVALID);
        x.table(2, 7);
        x.table(1, 3);
        x.addRow(0, 0, 1, 30);
        x.addRow(1, 0, 1, 20);
        Check.due("reset(-1)", x.reset(-1), Check.INVALID);
        Check.due("reset(2)", x.reset(2), Check.INVALID);
        int told = x.tableOf(0, 2);
        Check.due("reset(0)", x.reset(0), 30);
        int[] then = {2, 7, 0, 0, 0, 0, 1000, 0, 1, 0};
        for (int what = 0; what < 10; what++) {
            Check.due("after it " + what, x.tableOf(0, what), then[what]);
        }
        for (int i = 0; i < 8; i++) {
            Check.due("register", x.keptAt(0, i), 0);
        }
        Check.due("nothing seen", x.sawAt(0, 0, 0), Check.NOT_FOUND);
        Check.due("log: table", x.logAt(0, 0), 0);
        Check.due("log: told", x.logAt(0, 1), told);
        Check.due("log: exact", x.logAt(0, 2), 30);
        Check.due("the other table stays", x.tableOf(1, 3), 20);
        Check.due("the time stays", x.count(1), 50);
        Check.due("reset(1)", x.reset(1), 20);
        Check.due("no hashes", x.keptAt(1, 0), Check.NOT_FOUND);
        Check.due("an empty one", x.reset(0), 0);
        Check.due("how often", x.tableOf(0, 8), 2);
        Check.due("how often", x.tableOf(1, 8), 1);
        Check.due("anew", x.add(0, 5), 1);
        x.undo();
        x.undo();
        Check.due("undone", x.tableOf(0, 8), 1);
    }

    private static void resetOfEachKind() {
        for (int kind = 0; kind < 3; kind++) {
            Counted x = new Counted();
            x.table(kind, 4);
            x.table(kind, 4);
            x.addRow(0, 0, 3, 50);
            x.reset(0);
            x.addRow(0, 100, 3, 5);
            x.addRow(1, 100, 3, 5);
            for (int i = 0; i < 32; i++) {
                Check.due("kept " + i + " since the reset", x.keptAt(0, i), x.keptAt(1, i));
            }
            for (int what = 0; what < 10; what++) {
                Check.due("tableOf " + what + " since the reset", x.tableOf(0, what), what == 8 ? 1 : x.tableOf(1, what));
            }
        }
    }

    private static void tableAnewAfterUndo() {
        Counted y = new Counted();
        Check.type(y, "k0,0;a0,1;z0;a0,2;");
        for (int i = 0; i < 3; i++) {
            Check.due("play", y.play(), 4);
            Check.due("one reset", y.tableOf(0, 8), 1);
            Check.due("undo", y.undo(), 0);
        }
        y.table(0, 0);
        Check.due("no reset", y.tableOf(0, 8), 0);
        Check.due("nothing seen", y.tableOf(0, 3), 0);
        Counted x = new Counted();
        x.table(0, 0);
        x.addRow(0, 0, 1, 50);
        x.reset(0);
        x.addRow(0, 0, 1, 9);
        for (int i = 0; i < 4; i++) {
            x.undo();
        }
        x.table(1, 2);
        int[] due = {1, 2, 0, 0, 0, 0, 1000, 0, 0, 0};
        for (int what = 0; what < 10; what++) {
            Check.due("made anew, what " + what, x.tableOf(0, what), due[what]);
        }
        Check.due("nothing kept", x.keptAt(0, 0), Check.NOT_FOUND);
        Check.due("nothing seen", x.sawAt(0, 0, 0), Check.NOT_FOUND);
    }
}

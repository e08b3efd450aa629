/** Promises 7 to 13: what there is. */
public final class WhatThereIsTest {
    public static void main(String[] args) {
        tableOf();
        boundsOfTold();
        roughCounts();
        keptAt();
        sawAt();
        hash();
        has();
        hasByHashes();
        logAt();
        count();
        countOfThings();
        Check.end("WhatThereIsTest");
    }

    private static Counted threeTables() {
        Counted x = new Counted();
        x.table(0, 1);
        x.table(1, 1);
        x.table(2, 1);
        for (int i = 0; i < 3; i++) {
            x.addRow(i, 5, 7, 20);
        }
        return x;
    }

    private static void tableOf() {
        Counted x = threeTables();
        int[][] due = {
            {0, 1, 18, 20, 14, 20, 998, 20, 0, 18},
            {1, 1, 16, 20, 8, 20, 996, 20, 0, 16},
            {2, 1, 18, 20, 8, 20, 998, 20, 0, 18}};
        for (int i = 0; i < 3; i++) {
            for (int what = 0; what < 10; what++) {
                Check.due("tableOf(" + i + ", " + what + ")", x.tableOf(i, what), due[i][what]);
            }
        }
        int[][] wrong = {{-1, 0}, {3, 0}, {0, -1}, {0, 10}, {Integer.MAX_VALUE, 0}, {0, Integer.MIN_VALUE}};
        for (int[] w : wrong) {
            Check.due("tableOf(" + w[0] + ", " + w[1] + ")", x.tableOf(w[0], w[1]), Check.INVALID);
        }
    }

    /** What is told is held between the sure bounds, the rough count is not. */
    private static void boundsOfTold() {
        Counted x = new Counted();
        x.table(1, 0);
        x.addRow(0, 0, 1, 8);
        Check.due("rough below", x.tableOf(0, 9), 7);
        Check.due("told is low", x.tableOf(0, 2), 8);
        Check.due("error", x.tableOf(0, 6), 1000);
        x.table(2, 2);
        int[] things = new int[8];
        int filled = 0;
        for (int thing = 999; thing >= 0; thing--) {
            int h = RoughModel.hashOf(thing, 2);
            if (h / 8 % 16 == 0 && things[h % 8] == 0) {
                things[h % 8] = thing;
                filled++;
            }
        }
        Check.due("a thing of a high rank for each register", filled, 8);
        for (int thing : things) {
            x.add(1, thing);
        }
        Check.due("rough far above", x.tableOf(1, 9) > 100 ? 1 : 0, 1);
        Check.due("told is high", x.tableOf(1, 2), 8);
        Check.due("high", x.tableOf(1, 5), 8);
        x.table(1, 0);
        x.addRow(2, 0, 0, 100);
        Check.due("high goes by additions", x.tableOf(2, 5), 100);
        for (int i = 0; i < 9; i++) {
            x.addRow(2, 0, 0, 100);
        }
        Check.due("high of 1000", x.tableOf(2, 5), 1000);
        x.add(2, 0);
        Check.due("high of 1001", x.tableOf(2, 5), 1000);
        Check.due("additions of 1001", x.tableOf(2, 7), 1001);
        Check.due("one hash", x.tableOf(2, 2), 1);
    }

    /** The rough count after each of many additions, by each kind and seed. */
    private static void roughCounts() {
        for (int seed = 0; seed < 10; seed++) {
            for (int kind = 0; kind < 3; kind++) {
                Counted x = new Counted();
                x.table(kind, seed);
                RoughModel.Tab tab = new RoughModel.Tab();
                tab.kind = kind;
                tab.seed = seed;
                for (int i = 0; i < 160; i++) {
                    int thing = (i * 37 + 11 * seed) % 1000;
                    tab.put(thing, i);
                    Check.due("told, kind " + kind, x.add(0, thing), tab.told());
                    Check.due("rough, kind " + kind, x.tableOf(0, 9), tab.rough());
                    Check.due("low, kind " + kind, x.tableOf(0, 4), tab.low());
                }
            }
        }
    }

    private static void keptAt() {
        Counted x = threeTables();
        int lit = 0;
        for (int i = 0; i < 32; i++) {
            int bit = 0;
            for (int k = 0; k < 20; k++) {
                bit = RoughModel.hashOf(5 + 7 * k, 1) / 2048 == i ? 1 : bit;
            }
            Check.due("bit " + i, x.keptAt(0, i), bit);
            lit += bit;
        }
        Check.due("bits", lit, x.tableOf(0, 4));
        Check.due("first hash", x.keptAt(1, 0), 54);
        Check.due("last hash", x.keptAt(1, 7), 27897);
        for (int i = 1; i < 8; i++) {
            Check.due("in order", x.keptAt(1, i) > x.keptAt(1, i - 1) ? 1 : 0, 1);
        }
        for (int i = 0; i < 8; i++) {
            int register = 0;
            for (int k = 0; k < 20; k++) {
                int h = RoughModel.hashOf(5 + 7 * k, 1);
                register = h % 8 == i ? Math.max(register, 1 + Integer.numberOfTrailingZeros(h / 8)) : register;
            }
            Check.due("register " + i, x.keptAt(2, i), register);
        }
        int[] beyond = {32, 8, 8};
        for (int table = 0; table < 3; table++) {
            int due = table == 1 ? Check.NOT_FOUND : Check.INVALID;
            Check.due("keptAt(" + table + ", beyond)", x.keptAt(table, beyond[table]), due);
            Check.due("keptAt(" + table + ", far beyond)", x.keptAt(table, Integer.MAX_VALUE), due);
            Check.due("keptAt(" + table + ", -1)", x.keptAt(table, -1), Check.INVALID);
            Check.due("keptAt(" + table + ", least)", x.keptAt(table, Integer.MIN_VALUE), Check.INVALID);
        }
        Check.due("keptAt(3, 0)", x.keptAt(3, 0), Check.INVALID);
        Check.due("keptAt(-1, 0)", x.keptAt(-1, 0), Check.INVALID);
        x.table(1, 1);
        Check.due("no hashes", x.keptAt(3, 0), Check.NOT_FOUND);
        x.add(3, 5);
        Check.due("one hash", x.keptAt(3, 0), 33127);
        Check.due("not two", x.keptAt(3, 1), Check.NOT_FOUND);
    }

    private static void sawAt() {
        Counted x = new Counted();
        x.table(2, 0);
        x.table(0, 0);
        x.add(0, 500);
        x.add(1, 7);
        x.add(0, 999);
        x.add(0, 0);
        x.add(0, 500);
        int[][] due = {{0, 3}, {500, 0}, {999, 2}};
        for (int i = 0; i < 3; i++) {
            Check.due("thing " + i, x.sawAt(0, i, 0), due[i][0]);
            Check.due("time " + i, x.sawAt(0, i, 1), due[i][1]);
        }
        Check.due("no fourth", x.sawAt(0, 3, 0), Check.NOT_FOUND);
        Check.due("no fourth", x.sawAt(0, 3, 1), Check.NOT_FOUND);
        Check.due("far beyond", x.sawAt(0, Integer.MAX_VALUE, 1), Check.NOT_FOUND);
        int[][] wrong = {{-1, 0, 0}, {2, 0, 0}, {0, -1, 0}, {0, 0, -1}, {0, 0, 2}, {0, 9, 2}, {2, 9, 0},
            {0, Integer.MIN_VALUE, 0}};
        for (int[] w : wrong) {
            Check.due("sawAt(" + w[0] + ", " + w[1] + ", " + w[2] + ")", x.sawAt(w[0], w[1], w[2]), Check.INVALID);
        }
    }

    private static void hash() {
        Counted x = new Counted();
        int[][] due = {{5, 1, 33127}, {0, 0, 40741}, {999, 0, 36955}, {0, 9, 14005}, {999, 9, 8106}, {453, 6, 0},
            {227, 2, 5}, {19, 0, 1809}};
        for (int[] d : due) {
            Check.due("hash(" + d[0] + ", " + d[1] + ")", x.hash(d[0], d[1]), d[2]);
        }
        int[][] wrong = {{-1, 0}, {1000, 0}, {0, -1}, {0, 10}, {Integer.MAX_VALUE, 0}, {0, Integer.MIN_VALUE}};
        for (int[] w : wrong) {
            Check.due("hash(" + w[0] + ", " + w[1] + ")", x.hash(w[0], w[1]), Check.INVALID);
        }
        Check.due("needs no table, changes nothing", x.count(6), 0);
    }

    private static void has() {
        Counted x = new Counted();
        for (int kind = 0; kind < 3; kind++) {
            x.table(kind, 0);
            Check.due("not yet", x.has(kind, 0, 0), 0);
            Check.due("could not have", x.has(kind, 0, 1), 0);
            x.add(kind, 0);
            Check.due("saw 0", x.has(kind, 0, 0), 1);
            Check.due("could have seen 0", x.has(kind, 0, 1), 1);
            Check.due("did not see 1", x.has(kind, 1, 0), 0);
            Check.due("could not have seen 1", x.has(kind, 1, 1), 0);
        }
        // 16 has the bit of 0; 4 has the register of 0 and a lower rank; 10 has it with a higher one.
        Check.due("did not see 16", x.has(0, 16, 0), 0);
        Check.due("could have seen 16", x.has(0, 16, 1), 1);
        Check.due("could have seen 4", x.has(2, 4, 1), 1);
        Check.due("did not see 4", x.has(2, 4, 0), 0);
        Check.due("could not have seen 10", x.has(2, 10, 1), 0);
        int[][] wrong = {{-1, 0, 0}, {3, 0, 0}, {0, -1, 0}, {0, 1000, 0}, {0, 0, -1}, {0, 0, 2},
            {0, Integer.MAX_VALUE, 1}};
        for (int[] w : wrong) {
            Check.due("has(" + w[0] + ", " + w[1] + ", " + w[2] + ")", x.has(w[0], w[1], w[2]), Check.INVALID);
        }
    }

    private static void hasByHashes() {
        Counted x = new Counted();
        x.table(1, 0);
        x.addRow(0, 0, 1, 7);
        Check.due("7 kept: a greater one would be kept", x.has(0, 3, 1), 1);
        Check.due("7 kept, 11 is new", x.has(0, 11, 1), 0);
        x.add(0, 8);
        Check.due("8 kept, 55803 of 11 is below 59611", x.has(0, 11, 1), 0);
        x.add(0, 11);
        Check.due("3 is no longer kept", x.has(0, 3, 1), 1);
        Check.due("but was seen", x.has(0, 3, 0), 1);
        Check.due("61554 of 14 is above", x.has(0, 14, 1), 1);
        Check.due("and was not seen", x.has(0, 14, 0), 0);
        Check.due("the greatest kept one", x.has(0, 11, 1), 1);
        Check.due("a smaller one", x.has(0, 9, 1), 0);
    }

    private static void logAt() {
        Counted x = new Counted();
        x.table(0, 0);
        x.table(1, 0);
        int[] tolds = new int[8];
        for (int i = 0; i < 8; i++) {
            x.addRow(i % 2, 0, 1, i + 1);
            tolds[i] = x.tableOf(i % 2, 2);
            x.reset(i % 2);
            Check.due("resets", x.count(4), i + 1);
            Check.due("one more is not kept", x.logAt(i + 1, 0), Check.NOT_FOUND);
        }
        for (int i = 0; i < 8; i++) {
            Check.due("table of " + i, x.logAt(i, 0), (7 - i) % 2);
            Check.due("told of " + i, x.logAt(i, 1), tolds[7 - i]);
            Check.due("exact of " + i, x.logAt(i, 2), 8 - i);
        }
        x.addRow(1, 0, 1, 20);
        int told = x.tableOf(1, 2);
        x.reset(1);
        Check.due("8 are kept", x.count(4), 8);
        Check.due("the latest, told", x.logAt(0, 1), told);
        Check.due("the latest, exact", x.logAt(0, 2), 20);
        Check.due("the oldest kept", x.logAt(7, 2), 2);
        Check.due("no ninth", x.logAt(8, 2), Check.NOT_FOUND);
        Check.due("far beyond", x.logAt(Integer.MAX_VALUE, 0), Check.NOT_FOUND);
        int[][] wrong = {{-1, 0}, {0, -1}, {0, 3}, {8, 3}, {-1, 3}, {Integer.MIN_VALUE, 0}};
        for (int[] w : wrong) {
            Check.due("logAt(" + w[0] + ", " + w[1] + ")", x.logAt(w[0], w[1]), Check.INVALID);
        }
        x.undo();
        for (int i = 0; i < 8; i++) {
            Check.due("undone, table of " + i, x.logAt(i, 0), (7 - i) % 2);
            Check.due("undone, told of " + i, x.logAt(i, 1), tolds[7 - i]);
            Check.due("undone, exact of " + i, x.logAt(i, 2), 8 - i);
        }
    }

    private static void count() {
        Counted x = threeTables();
        x.add(0, 5);
        x.reset(2);
        x.type('k');
        int[] due = {3, 61, 20, 0, 1, 1, 4, 1};
        for (int what = 0; what < 8; what++) {
            Check.due("count(" + what + ")", x.count(what), due[what]);
        }
        Check.due("count(-1)", x.count(-1), Check.INVALID);
        Check.due("count(8)", x.count(8), Check.INVALID);
        Check.due("count(greatest)", x.count(Integer.MAX_VALUE), Check.INVALID);
        Check.due("count(least)", x.count(Integer.MIN_VALUE), Check.INVALID);
        for (int i = 0; i < 6; i++) {
            x.undo();
        }
        Check.due("history", x.count(6), 0);
    }

    private static void countOfThings() {
        Counted x = new Counted();
        Check.due("of any, no tables", x.count(2), 0);
        Check.due("of all, no tables", x.count(3), 0);
        x.table(0, 0);
        x.addRow(0, 0, 1, 10);
        Check.due("of any", x.count(2), 10);
        Check.due("of all", x.count(3), 10);
        x.table(1, 5);
        Check.due("of all, one empty", x.count(3), 0);
        x.addRow(1, 6, 1, 10);
        Check.due("of any", x.count(2), 16);
        Check.due("of all", x.count(3), 4);
        x.table(2, 9);
        x.addRow(2, 999, 9, 2);
        Check.due("of any", x.count(2), 17);
        Check.due("of all", x.count(3), 1);
        x.undo();
        x.undo();
        Check.due("a table undone counts no more", x.count(3), 4);
        Check.due("errors of 0", x.count(5), (x.tableOf(0, 6) == 1000 ? 1 : 0) + (x.tableOf(1, 6) == 1000 ? 1 : 0));
    }
}

import java.util.ArrayList;
import java.util.Collections;
import java.util.List;

/** "Merging, resets" and "Time": what tables become, and when things came to them. */
public final class MergingTest {
    public static void main(String[] args) {
        bitsOfBoth();
        eightOfSixteenHashes();
        fewHashesOfBoth();
        hashesKeptInBoth();
        greaterRegisters();
        exactSetsAreUnited();
        earlierTimes();
        formerStays();
        intoAndFromEmpty();
        likeKindsAndSeeds();
        mergeTakesNoTime();
        resetLeavesItAsAtFirst();
        resetLeavesOthers();
        resetOfAnEmptyTable();
        whatTheLogTells();
        timesOverTables();
        Check.end("MergingTest");
    }

    /** The things by a seed, those with the least hashes first. */
    private static List<Integer> byHash(int seed) {
        List<Integer> things = new ArrayList<>();
        for (int thing = 0; thing < 1000; thing++) {
            things.add(thing);
        }
        Collections.sort(things, (one, other) -> RoughModel.hashOf(one, seed) - RoughModel.hashOf(other, seed));
        return things;
    }

    private static Counted two(int kind, int seed) {
        Counted x = new Counted();
        x.table(kind, seed);
        x.table(kind, seed);
        return x;
    }

    /** "Bits that are lit in one of both are lit." */
    private static void bitsOfBoth() {
        Counted x = two(0, 9);
        List<Integer> things = byHash(9);
        int[] lit = new int[32];
        for (int i = 0; i < 12; i++) {
            int thing = things.get(i * 83);
            lit[RoughModel.hashOf(thing, 9) / 2048] = 1;
            if (i % 3 != 1) {
                x.add(0, thing);
            }
            if (i % 3 != 0) {
                x.add(1, thing);
            }
        }
        x.merge(0, 1);
        for (int bit = 0; bit < 32; bit++) {
            Check.due("bit " + bit, x.keptAt(0, bit), lit[bit]);
        }
        Check.due("exact", x.tableOf(0, 3), 12);
        Check.due("additions", x.tableOf(0, 7), 16);
    }

    /** "Of the hashes kept in both the 8 smallest ones are kept." */
    private static void eightOfSixteenHashes() {
        List<Integer> things = byHash(4);
        int[][] firsts = {{0, 1, 2, 3, 4, 5, 6, 7}, {8, 9, 10, 11, 12, 13, 14, 15}, {0, 2, 4, 6, 8, 10, 12, 14},
            {1, 2, 3, 4, 12, 13, 14, 15}, {0, 9, 10, 11, 12, 13, 14, 15}, {0, 1, 2, 3, 4, 5, 6, 15}};
        for (int[] first : firsts) {
            Counted x = two(1, 4);
            boolean[] mine = new boolean[16];
            for (int rank : first) {
                mine[rank] = true;
                x.add(0, things.get(rank));
            }
            for (int rank = 15; rank >= 0; rank--) {
                if (!mine[rank]) {
                    x.add(1, things.get(rank));
                }
            }
            int together = 7 * 65536 / (RoughModel.hashOf(things.get(7), 4) + 1);
            Check.due("both", x.both(0, 1, 0), Math.min(16, together));
            Check.due("told", x.merge(0, 1), Math.min(16, together));
            for (int i = 0; i < 8; i++) {
                Check.due("kept " + i, x.keptAt(0, i), RoughModel.hashOf(things.get(i), 4));
            }
            Check.due("no ninth", x.keptAt(0, 8), Check.NOT_FOUND);
            Check.due("exact", x.tableOf(0, 3), 16);
            Check.due("the other one's exact", x.tableOf(1, 3), 8);
        }
    }

    /** Of one and seven, four and four all are kept, of more than eight the greatest are not. */
    private static void fewHashesOfBoth() {
        List<Integer> things = byHash(7);
        for (int one = 0; one <= 8; one++) {
            for (int other = 0; other <= 8; other++) {
                Counted x = two(1, 7);
                for (int i = 0; i < one; i++) {
                    x.add(0, things.get(2 * i));
                }
                for (int i = 0; i < other; i++) {
                    x.add(1, things.get(2 * i + 1));
                }
                x.merge(0, 1);
                Check.due("low of " + one + " and " + other, x.tableOf(0, 4), Math.min(8, one + other));
                int at = 0;
                for (int rank = 0; rank < 16 && at < 8; rank++) {
                    if (rank / 2 < (rank % 2 == 0 ? one : other)) {
                        Check.due("kept " + at, x.keptAt(0, at), RoughModel.hashOf(things.get(rank), 7));
                        at++;
                    }
                }
                Check.due("no more", x.keptAt(0, at), Check.NOT_FOUND);
                Check.due("additions", x.tableOf(0, 7), one + other);
            }
        }
    }

    /** A hash that both keep is one hash. */
    private static void hashesKeptInBoth() {
        List<Integer> things = byHash(0);
        for (int shared = 0; shared <= 8; shared++) {
            Counted x = two(1, 0);
            for (int i = 0; i < 8; i++) {
                x.add(0, things.get(i));
                x.add(1, things.get(8 + i - shared));
            }
            x.merge(1, 0);
            for (int i = 0; i < 8; i++) {
                Check.due("kept " + i, x.keptAt(1, i), RoughModel.hashOf(things.get(i), 0));
            }
            Check.due("exact", x.tableOf(1, 3), 16 - shared);
            Check.due("additions", x.tableOf(1, 7), 16);
        }
    }

    /** "Registers become the greater ones of both." */
    private static void greaterRegisters() {
        for (int seed = 0; seed < 10; seed++) {
            Counted x = two(2, seed);
            int[] due = new int[8];
            for (int i = 0; i < 20; i++) {
                int thing = 47 * i % 1000;
                int h = RoughModel.hashOf(thing, seed);
                due[h % 8] = Math.max(due[h % 8], 1 + Integer.numberOfTrailingZeros(h / 8));
                x.add(i % 2, thing);
            }
            x.merge(1, 0);
            x.merge(0, 1);
            for (int register = 0; register < 8; register++) {
                Check.due("register " + register, x.keptAt(1, register), due[register]);
                Check.due("register " + register + " of the other one", x.keptAt(0, register), due[register]);
            }
        }
    }

    private static void exactSetsAreUnited() {
        Counted x = two(2, 3);
        x.addRow(0, 0, 2, 50);
        x.addRow(1, 0, 3, 50);
        Check.due("both saw", x.both(0, 1, 3), 17);
        Check.due("one of both saw", x.both(0, 1, 1), 83);
        x.merge(0, 1);
        Check.due("exact", x.tableOf(0, 3), 83);
        int index = 0;
        for (int thing = 0; thing < 150; thing++) {
            if (thing % 2 == 0 && thing < 100 || thing % 3 == 0) {
                Check.due("the thing", x.sawAt(0, index, 0), thing);
                index++;
            }
        }
        Check.due("no more", x.sawAt(0, index, 0), Check.NOT_FOUND);
    }

    /** "Of a thing that both saw the earlier time is known." */
    private static void earlierTimes() {
        Counted x = two(1, 5);
        x.addRow(0, 10, 1, 3);
        x.addRow(1, 12, 1, 3);
        x.addRow(0, 14, 1, 2);
        x.addRow(1, 9, 1, 2);
        x.merge(0, 1);
        int[] due = {8, 0, 1, 2, 4, 5, 7};
        for (int i = 0; i < 7; i++) {
            Check.due("time of " + (9 + i), x.sawAt(0, i, 1), due[i]);
        }
        x.merge(1, 0);
        for (int i = 0; i < 7; i++) {
            Check.due("the other one's time of " + (9 + i), x.sawAt(1, i, 1), due[i]);
        }
        x.reset(0);
        x.add(0, 12);
        Check.due("since the reset", x.sawAt(0, 0, 1), 10);
        x.merge(0, 1);
        Check.due("the earlier one of the other table", x.sawAt(0, 3, 1), 2);
    }

    /** "The former one stays as it is." */
    private static void formerStays() {
        for (int kind = 0; kind < 3; kind++) {
            int of = kind;
            Script before = x -> {
                x.table(of, 6);
                x.table(of, 6);
                x.addRow(0, 0, 7, 30);
                x.addRow(1, 3, 5, 30);
            };
            Script after = Script.both(before, x -> x.merge(0, 1));
            Check.due("the former one", Look.table(after, 1), Look.table(before, 1));
            Script on = Script.both(after, x -> {
                x.addRow(0, 500, 1, 50);
                x.reset(0);
            });
            Check.due("it shares nothing", Look.table(on, 1), Look.table(before, 1));
            Script from = Script.both(after, x -> {
                x.addRow(1, 700, 1, 50);
                x.reset(1);
            });
            Check.due("nor does the other one", Look.table(from, 0), Look.table(after, 0));
        }
    }

    private static void intoAndFromEmpty() {
        for (int kind = 0; kind < 3; kind++) {
            int of = kind;
            Script before = x -> {
                x.table(of, 2);
                x.table(of, 2);
                x.addRow(0, 5, 9, 40);
            };
            Script from = Script.both(before, x -> Check.due("from an empty one", x.merge(0, 1), x.tableOf(0, 2)));
            Check.due("from an empty one", Look.table(from, 0), Look.table(before, 0));
            Script into = Script.both(before, x -> Check.due("into an empty one", x.merge(1, 0), x.tableOf(0, 2)));
            Check.due("into an empty one", Look.table(into, 1), Look.table(before, 0));
        }
    }

    /** "NOT_POSSIBLE if their kinds or seeds are unlike." */
    private static void likeKindsAndSeeds() {
        for (int kind = 0; kind < 3; kind++) {
            for (int seed = 0; seed < 10; seed += 3) {
                Counted x = new Counted();
                int[][] tables = {{kind, seed}, {kind, seed}, {(kind + 1) % 3, seed}, {(kind + 2) % 3, seed},
                    {kind, (seed + 1) % 10}, {(kind + 1) % 3, (seed + 1) % 10}};
                for (int[] table : tables) {
                    x.table(table[0], table[1]);
                }
                for (int other = 0; other < 6; other++) {
                    int due = other == 0 ? Check.INVALID : other == 1 ? 0 : Check.NOT_POSSIBLE;
                    Check.due("merge(0, " + other + ")", x.merge(0, other), due);
                    Check.due("merge(" + other + ", 0)", x.merge(other, 0), due);
                    int together = other < 2 ? 0 : Check.NOT_POSSIBLE;
                    Check.due("both(0, " + other + ", 0)", x.both(0, other, 0), together);
                    Check.due("both(" + other + ", 0, 2)", x.both(other, 0, 2), together);
                    Check.due("both(0, " + other + ", 1)", x.both(0, other, 1), 0);
                    Check.due("both(" + other + ", 0, 3)", x.both(other, 0, 3), 0);
                }
            }
        }
    }

    private static void mergeTakesNoTime() {
        Counted x = two(0, 0);
        x.addRow(1, 0, 1, 30);
        x.reset(0);
        x.merge(0, 1);
        Check.due("the time", x.count(1), 30);
        Check.due("how often reset", x.tableOf(0, 8), 1);
        x.merge(1, 0);
        Check.due("how often the other one was reset", x.tableOf(1, 8), 0);
        Check.due("resets in the log", x.count(4), 1);
        x.add(0, 500);
        Check.due("the time goes on", x.sawAt(0, 30, 1), 30);
    }

    /** "It is as it was at first, with its kind and seed, without additions": only how often it was reset tells. */
    private static void resetLeavesItAsAtFirst() {
        for (int kind = 0; kind < 3; kind++) {
            for (int seed = 0; seed < 10; seed += 9) {
                int ofKind = kind;
                int ofSeed = seed;
                Script never = x -> {
                    x.table(ofKind, ofSeed);
                    x.table(ofKind, ofSeed);
                    x.addRow(1, 0, 1, 100);
                };
                Script reset = x -> {
                    x.table(ofKind, ofSeed);
                    x.table(ofKind, ofSeed);
                    x.addRow(0, 0, 1, 100);
                    x.reset(0);
                };
                Script then = x -> {
                    x.addRow(0, 300, 7, 5);
                    x.merge(0, 1);
                    x.reset(1);
                };
                Check.due("as at first", withoutResets(reset), withoutResets(never));
                Script merged = Script.both(never, y -> y.reset(1));
                Check.due("and then", withoutResets(Script.both(reset, x -> x.addRow(0, 300, 7, 5))),
                    withoutResets(Script.both(merged, x -> x.addRow(0, 300, 7, 5))));
                Counted x = Script.fresh(Script.both(reset, then));
                Check.due("how often", x.tableOf(0, 8), 1);
                Check.due("how often the other one", x.tableOf(1, 8), 1);
                Check.due("exact", x.tableOf(0, 3), 5);
            }
        }
    }

    /** Table 0 as it is told, but for how often it was reset. */
    private static String withoutResets(Script script) {
        Counted x = Script.fresh(script);
        String resets = " " + x.tableOf(0, 8) + " " + x.tableOf(0, 9) + " keeps";
        return Look.table(script, 0).replace(resets, " " + x.tableOf(0, 9) + " keeps");
    }

    private static void resetLeavesOthers() {
        Script before = x -> {
            for (int table = 0; table < 6; table++) {
                x.table(table % 3, 1);
                x.addRow(table, 100 * table, 3, 15);
            }
        };
        for (int table = 0; table < 6; table++) {
            int number = table;
            Script after = Script.both(before, x -> Check.due("exact", x.reset(number), 15));
            for (int other = 0; other < 6; other++) {
                if (other != table) {
                    Check.due("table " + other, Look.table(after, other), Look.table(before, other));
                }
            }
        }
    }

    private static void resetOfAnEmptyTable() {
        Counted x = two(2, 5);
        Check.due("exact", x.reset(1), 0);
        int[] due = {1, 0, 0};
        for (int what = 0; what < 3; what++) {
            Check.due("log " + what, x.logAt(0, what), due[what]);
        }
        Check.due("how often", x.tableOf(1, 8), 1);
        Check.due("again", x.reset(1), 0);
        Check.due("how often", x.tableOf(1, 8), 2);
        Check.due("resets in the log", x.count(4), 2);
    }

    /** "Its told count, its exact count and its number are put into the log": what is told, not the rough count. */
    private static void whatTheLogTells() {
        Counted x = new Counted();
        x.table(1, 0);
        x.table(0, 0);
        x.addRow(0, 0, 1, 8);
        Check.due("rough", x.tableOf(0, 9), 7);
        x.reset(0);
        Check.due("told", x.logAt(0, 1), 8);
        for (int row = 0; row < 10; row++) {
            x.addRow(1, 100 * row, 1, 100);
        }
        x.reset(1);
        Check.due("table", x.logAt(0, 0), 1);
        Check.due("told", x.logAt(0, 1), 129);
        Check.due("exact", x.logAt(0, 2), 1000);
        Check.due("the reset before, table", x.logAt(1, 0), 0);
        Check.due("the reset before, told", x.logAt(1, 1), 8);
        Check.due("the reset before, exact", x.logAt(1, 2), 8);
    }

    /** "The time becomes greater by 1 with each addition, whichever table it is." */
    private static void timesOverTables() {
        Counted x = new Counted();
        for (int table = 0; table < 6; table++) {
            x.table(table % 3, table);
        }
        for (int i = 0; i < 60; i++) {
            Check.due("the time", x.count(1), i);
            x.add(i % 6, 500 - i);
        }
        for (int table = 0; table < 6; table++) {
            for (int i = 0; i < 10; i++) {
                Check.due("the time of a thing", x.sawAt(table, i, 1), 54 + table - 6 * i);
            }
        }
        x.reset(3);
        x.add(3, 497);
        Check.due("since the reset", x.sawAt(3, 0, 1), 60);
        x.add(3, 497);
        Check.due("seen first", x.sawAt(3, 0, 1), 60);
        Check.due("the time", x.count(1), 62);
    }
}

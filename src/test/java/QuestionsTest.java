import java.util.TreeMap;

/** What is asked about what would be, compared with what is when it is done, on another object. */
public final class QuestionsTest {
    public static void main(String[] args) {
        for (int kind = 0; kind < 3; kind++) {
            for (int many : new int[] {0, 1, 7, 8, 9, 30}) {
                eachThing(kind, many);
            }
        }
        raisesTheLast();
        wouldAtTheBounds();
        bothIsAsMerged();
        bothIsNotBelowZero();
        bothOfUnlikeOnes();
        errorsBelowZero();
        errorsAboveZero();
        noExactCount();
        orderByError();
        placesByError();
        countsOfThings();
        countOfErrors();
        Check.end("QuestionsTest");
    }

    private static Script row(int kind, int many) {
        return x -> {
            x.table(kind, 3);
            x.table(kind, 4);
            if (many > 0) {
                x.addRow(0, 40, 31, many);
            }
        };
    }

    private static String kept(Counted x) {
        StringBuilder out = new StringBuilder();
        for (int index = 0; index < 32; index++) {
            out.append(x.keptAt(0, index)).append(' ');
        }
        return out.toString();
    }

    /** "It would keep the same if the thing was added", "by whose addition a table would keep something else". */
    private static void eachThing(int kind, int many) {
        Script script = row(kind, many);
        String before = kept(Script.fresh(script));
        int lowest = Check.NOT_FOUND;
        for (int from = 0; from < 1000; from += 100) {
            Counted x = Script.fresh(script);
            for (int thing = from; thing < from + 100; thing++) {
                Counted added = Script.fresh(script);
                boolean saw = false;
                for (int i = 0; i < many; i++) {
                    saw = saw || (40 + 31 * i) % 1000 == thing;
                }
                int told = added.add(0, thing);
                boolean same = kept(added).equals(before);
                lowest = !same && lowest < 0 ? thing : lowest;
                Check.due("saw " + thing, x.has(0, thing, 0), saw ? 1 : 0);
                Check.due("keeps the same with " + thing, x.has(0, thing, 1), same ? 1 : 0);
                Check.due("would tell with " + thing, x.would(0, thing), told);
                Check.due("the other table did not see " + thing, x.has(1, thing, 0), 0);
            }
            Check.due("nothing was added", kept(x), before);
        }
        Check.due("raises", Script.fresh(script).raises(0), lowest);
    }

    /** All things but those that alone keep a table as it is: the lowest one of these raises it. */
    private static void raisesTheLast() {
        int[][] registers = {{2, 3, 949}, {2, 8, 758}, {2, 6, 453}, {2, 2, 227}, {2, 5, 862}, {1, 1, 47}, {1, 6, 453}};
        for (int[] r : registers) {
            Counted x = new Counted();
            x.table(r[0], r[1]);
            for (int from = 0; from < r[2]; from += 100) {
                x.addRow(0, from, 1, Math.min(100, r[2] - from));
            }
            for (int from = r[2] + 1; from < 1000; from += 100) {
                x.addRow(0, from, 1, Math.min(100, 1000 - from));
            }
            Check.due("all but one seen", x.tableOf(0, 3), 999);
            Check.due("raises", x.raises(0), r[2]);
            Check.due("would not keep the same", x.has(0, r[2], 1), 0);
            x.add(0, r[2]);
            Check.due("all seen", x.tableOf(0, 3), 1000);
            Check.due("nothing raises it", x.raises(0), Check.NOT_FOUND);
            Check.due("nor of all things", x.has(0, 999, 1), 1);
        }
        Counted x = new Counted();
        x.table(0, 0);
        int light = 0;
        for (int bit = 0; bit < 31; bit++) {
            x.add(0, byHash(0).ceilingEntry(2048 * bit).getValue());
        }
        while (RoughModel.hashOf(light, 0) < 2048 * 31) {
            light++;
        }
        Check.due("the lowest one for the last bit", x.raises(0), light);
    }

    private static TreeMap<Integer, Integer> byHash(int seed) {
        TreeMap<Integer, Integer> things = new TreeMap<>();
        for (int thing = 0; thing < 1000; thing++) {
            things.put(RoughModel.hashOf(thing, seed), thing);
        }
        return things;
    }

    /** "With one addition more": the high bound is one more then, but 1000 at most. */
    private static void wouldAtTheBounds() {
        Counted x = new Counted();
        x.table(1, 6);
        TreeMap<Integer, Integer> things = byHash(6);
        for (int i = 0; i < 8; i++) {
            x.add(0, things.pollFirstEntry().getValue());
        }
        Check.due("rough", x.tableOf(0, 9), 1565);
        Check.due("told", x.tableOf(0, 2), 8);
        Check.due("with the same again", x.would(0, 453), 9);
        Check.due("with another one", x.would(0, 0), 9);
        for (int row = 0; row < 9; row++) {
            x.addRow(0, 453, 0, 100);
        }
        x.addRow(0, 453, 0, 90);
        for (int additions = 998; additions <= 1002; additions++) {
            Check.due("told of " + additions, x.tableOf(0, 2), Math.min(additions, 1000));
            Check.due("would of " + additions, x.would(0, 453), Math.min(additions + 1, 1000));
            Check.due("added", x.add(0, 453), Math.min(additions + 1, 1000));
        }
        Check.due("exact", x.tableOf(0, 3), 8);
    }

    private static void bothIsAsMerged() {
        for (int kind = 0; kind < 3; kind++) {
            for (int step = 0; step <= 60; step += 6) {
                int of = kind;
                int by = step;
                Script script = x -> {
                    x.table(of, 3);
                    x.table(of, 3);
                    x.addRow(0, 0, 3, 1 + by);
                    x.addRow(1, by, 2, 61 - by);
                };
                Counted x = Script.fresh(script);
                Counted merged = Script.fresh(script);
                int told = merged.merge(0, 1);
                Check.due("merged", x.both(0, 1, 0), told);
                Check.due("the other way", x.both(1, 0, 0), told);
                Check.due("one of both", x.both(0, 1, 1), merged.tableOf(0, 3));
                int less = Math.max(0, x.tableOf(0, 2) + x.tableOf(1, 2) - told);
                Check.due("less", x.both(0, 1, 2), less);
                Check.due("less, the other way", x.both(1, 0, 2), less);
                int common = x.tableOf(0, 3) + x.tableOf(1, 3) - merged.tableOf(0, 3);
                Check.due("both", x.both(0, 1, 3), common);
                Check.due("both, the other way", x.both(1, 0, 3), common);
                itself(script, x, 0);
                itself(script, x, 1);
            }
        }
    }

    /** "Perhaps the same"; "of a table with itself its additions count twice then". */
    private static void itself(Script script, Counted x, int table) {
        // Merged with a table that is its copy: into a third one, then back.
        Counted copied = Script.fresh(script);
        int kind = copied.tableOf(table, 0);
        int copy = copied.table(kind, 3);
        copied.merge(copy, table);
        int told = copied.merge(table, copy);
        Check.due("with itself", x.both(table, table, 0), told);
        Check.due("less", x.both(table, table, 2), Math.max(0, 2 * x.tableOf(table, 2) - told));
        Check.due("one of both is itself", x.both(table, table, 1), x.tableOf(table, 3));
        Check.due("both are itself", x.both(table, table, 3), x.tableOf(table, 3));
    }

    /** "At least 0": few small hashes in each tell less than all of them together. */
    private static void bothIsNotBelowZero() {
        TreeMap<Integer, Integer> things = byHash(6);
        Counted x = new Counted();
        x.table(1, 6);
        x.table(1, 6);
        for (int i = 0; i < 8; i++) {
            int thing = things.pollFirstEntry().getValue();
            x.addRow(i % 2, thing, 0, 20);
        }
        Check.due("one tells", x.tableOf(0, 2), 4);
        Check.due("the other one tells", x.tableOf(1, 2), 4);
        Check.due("together they tell", x.both(0, 1, 0), 160);
        Check.due("less", x.both(0, 1, 2), 0);
        Check.due("with itself", x.both(0, 0, 2), 4);
    }

    private static void bothOfUnlikeOnes() {
        Counted x = new Counted();
        x.table(0, 1);
        x.table(0, 2);
        x.table(1, 1);
        x.addRow(0, 995, 1, 10);
        x.addRow(1, 0, 1, 10);
        x.addRow(2, 4, 1, 2);
        int[][] due = {{0, 1, 15, 5}, {0, 2, 11, 1}, {1, 2, 10, 2}};
        for (int[] d : due) {
            for (int turn = 0; turn < 2; turn++) {
                int one = d[turn];
                int other = d[1 - turn];
                Check.due("one of both", x.both(one, other, 1), d[2]);
                Check.due("both", x.both(one, other, 3), d[3]);
                Check.due("merged", x.both(one, other, 0), Check.NOT_POSSIBLE);
                Check.due("less", x.both(one, other, 2), Check.NOT_POSSIBLE);
                Check.due("out of range all the same", x.both(one, other, 4), Check.INVALID);
                Check.due("out of range all the same", x.both(one, other, -1), Check.INVALID);
            }
        }
    }

    private static void bits(Counted x, int told, int exact) {
        int due = Float.floatToIntBits((float) (told - exact) / (float) exact);
        Check.due((told - exact) + " / " + exact, x.errorBits(0), due);
    }

    /** When all bits are lit 129 is told, while the exact count goes on to 1000. */
    private static void errorsBelowZero() {
        for (int from : new int[] {250, 450, 650, 800}) {
            Counted x = new Counted();
            x.table(0, 0);
            for (int row = 0; row < from; row += 50) {
                x.addRow(0, row, 1, 50);
            }
            for (int exact = from; exact < from + 200; exact++) {
                bits(x, 129, exact);
                Check.due("told", x.add(0, exact), 129);
            }
        }
        Counted x = new Counted();
        x.table(0, 0);
        for (int row = 0; row < 1000; row += 100) {
            x.addRow(0, row, 1, 100);
        }
        bits(x, 129, 1000);
    }

    /** The smallest hashes and more and more additions of a thing seen: what is told goes up to 1000. */
    private static void errorsAboveZero() {
        for (int exact = 8; exact <= 48; exact++) {
            TreeMap<Integer, Integer> things = byHash(6);
            Counted x = new Counted();
            x.table(1, 6);
            for (int i = 0; i < exact; i++) {
                x.add(0, things.pollFirstEntry().getValue());
            }
            bits(x, exact, exact);
            for (int additions = exact; x.callsLeft() > 2; ) {
                int many = 1 + additions % 9;
                additions += many;
                int told = x.addRow(0, 453, 0, many);
                Check.due("told", told, Math.min(1000, additions));
                bits(x, told, exact);
            }
        }
        for (int exact = 1; exact < 8; exact++) {
            Counted x = new Counted();
            x.table(1, 6);
            x.addRow(0, 0, 1, exact);
            bits(x, exact, exact);
        }
    }

    /** "NOT_FOUND if the exact count is 0." */
    private static void noExactCount() {
        Counted x = new Counted();
        Check.due("no table", x.errorBits(0), Check.INVALID);
        x.table(2, 0);
        Check.due("nothing seen", x.errorBits(0), Check.NOT_FOUND);
        x.add(0, 0);
        Check.due("one thing seen", x.errorBits(0), 0);
        x.reset(0);
        Check.due("nothing seen again", x.errorBits(0), Check.NOT_FOUND);
        x.table(2, 0);
        x.merge(0, 1);
        Check.due("nothing seen by both", x.errorBits(0), Check.NOT_FOUND);
        x.undo();
        x.undo();
        x.undo();
        Check.due("the thing is seen again", x.errorBits(0), 0);
        x.undo();
        Check.due("nothing seen yet", x.errorBits(0), Check.NOT_FOUND);
    }

    /** "Those with a greater absolute value first, of several the one with the lower number." */
    private static void orderByError() {
        Counted x = new Counted();
        // Errors by kind 1 and seed 6: none, below and above 0, the same size with both signs.
        for (int table = 0; table < 6; table++) {
            x.table(1, 6);
        }
        TreeMap<Integer, Integer> things = byHash(6);
        Integer[] hashes = things.keySet().toArray(new Integer[0]);
        for (int i = 0; i < 8; i++) {
            int thing = things.get(hashes[i]);
            x.add(1, thing);
            x.add(3, thing);
            x.add(4, thing);
        }
        x.addRow(1, 453, 0, 5);
        x.addRow(3, 453, 0, 5);
        x.addRow(4, 453, 0, 7);
        for (int i = 0; i < 13; i++) {
            x.add(2, things.get(hashes[999 - i]));
        }
        // Table 2 keeps hashes above 60000 and tells 8 of 13.
        int[] errors = {0, 5, -5, 5, 7, 0};
        for (int table = 0; table < 6; table++) {
            Check.due("error of " + table, x.tableOf(table, 6), 1000 + errors[table]);
        }
        int[] due = {4, 1, 2, 3, 0, 5};
        for (int place = 0; place < 6; place++) {
            Check.due("place " + place, x.byError(place), due[place]);
        }
        Check.due("no seventh", x.byError(6), Check.NOT_FOUND);
        x.add(2, things.get(hashes[900]));
        x.add(2, things.get(hashes[901]));
        x.add(2, things.get(hashes[902]));
        int[] then = {2, 4, 1, 3, 0, 5};
        for (int place = 0; place < 6; place++) {
            Check.due("then place " + place, x.byError(place), then[place]);
        }
        Check.due("errors of 0", x.count(5), 2);
    }

    private static void placesByError() {
        Counted x = new Counted();
        for (int tables = 0; tables <= 6; tables++) {
            for (int place = 0; place < 8; place++) {
                Check.due("place " + place + " of " + tables, x.byError(place), place < tables ? place : Check.NOT_FOUND);
            }
            Check.due("far beyond", x.byError(Integer.MAX_VALUE), Check.NOT_FOUND);
            Check.due("below", x.byError(-1), Check.INVALID);
            x.table(tables % 3, 0);
        }
    }

    /** "Things that any table saw, each once", "things that all tables saw (0 without tables)". */
    private static void countsOfThings() {
        Counted x = new Counted();
        Check.due("any of none", x.count(2), 0);
        Check.due("all of none", x.count(3), 0);
        for (int table = 0; table < 6; table++) {
            x.table(table % 3, table);
            Check.due("all with an empty one", x.count(3), 0);
            x.addRow(table, 990, 1, 20 - table);
            Check.due("any", x.count(2), 20);
            Check.due("all", x.count(3), 20 - table);
        }
        x.add(0, 500);
        x.add(5, 501);
        Check.due("any", x.count(2), 22);
        Check.due("all", x.count(3), 15);
        x.reset(0);
        Check.due("any without table 0", x.count(2), 20);
        Check.due("all without table 0", x.count(3), 0);
        x.addRow(0, 999, 0, 9);
        Check.due("any", x.count(2), 20);
        Check.due("all saw 999", x.count(3), 1);
        for (int row = 0; row < 10; row++) {
            x.addRow(3, 100 * row, 1, 100);
        }
        Check.due("any of all things", x.count(2), 1000);
        Check.due("all", x.count(3), 1);
    }

    private static void countOfErrors() {
        Counted x = new Counted();
        Check.due("no tables", x.count(5), 0);
        for (int table = 0; table < 6; table++) {
            x.table(1, 1);
            Check.due("tables without error", x.count(5), table + 1);
        }
        for (int table = 0; table < 6; table++) {
            x.addRow(table, 5, 7, 20);
            Check.due("its error", x.tableOf(table, 6), 996);
            Check.due("tables without error", x.count(5), 5 - table);
        }
        x.reset(2);
        Check.due("no error after the reset", x.count(5), 1);
        for (int table = 0; table < 6; table++) {
            x.reset(table);
        }
        Check.due("no error after the resets", x.count(5), 6);
    }
}

/**
 * Each argument of each call just in, just out and far out of its range, the other ones in theirs, in a state where the
 * call is possible and in one where it is not: INVALID_ARGUMENT comes ahead of all other errors.
 */
public final class RangesTest {
    private static final int NONE = Integer.MAX_VALUE;
    private static final int[] KIND = {0, 2};
    private static final int[] SEED = {0, 9};
    private static final int[] THING = {0, 999};

    private interface Call {
        int on(Counted x, int[] with);
    }

    private static Script scene;
    private static String where;
    private static int tables;

    public static void main(String[] args) {
        in("without tables: ", Scenes.empty(), 0);
        in("in a roomy state: ", Scenes.roomy(), 5);
        in("in a full state: ", Scenes.full(), 6);
        scenesAreAsTold();
        Check.end("RangesTest");
    }

    private static void in(String name, Script script, int many) {
        where = name;
        scene = script;
        tables = many;
        changes();
        whatThereIs();
        keptAt();
        whatWouldBe();
        texts();
    }

    private static void changes() {
        int[] table = {0, tables - 1};
        int[] many = {1, 100};
        ranges("table", (x, a) -> x.table(a[0], a[1]), KIND, SEED);
        ranges("add", (x, a) -> x.add(a[0], a[1]), table, THING);
        ranges("addRow", (x, a) -> x.addRow(a[0], a[1], a[2], a[3]), table, THING, THING, many);
        ranges("merge", (x, a) -> x.merge(a[0], a[1] == 0 ? 1 : a[1]), table, table);
        ranges("merge", (x, a) -> x.merge(a[0] == 0 ? 1 : a[0], a[1]), table, table);
        ranges("reset", (x, a) -> x.reset(a[0]), table);
    }

    private static void whatThereIs() {
        int[] table = {0, tables - 1};
        ranges("tableOf", (x, a) -> x.tableOf(a[0], a[1]), table, new int[] {0, 9});
        ranges("sawAt", (x, a) -> x.sawAt(a[0], a[1], a[2]), table, new int[] {0, NONE}, new int[] {0, 1});
        ranges("hash", (x, a) -> x.hash(a[0], a[1]), THING, SEED);
        ranges("has", (x, a) -> x.has(a[0], a[1], a[2]), table, THING, new int[] {0, 1});
        ranges("logAt", (x, a) -> x.logAt(a[0], a[1]), new int[] {0, NONE}, new int[] {0, 2});
        ranges("count", (x, a) -> x.count(a[0]), new int[] {0, 7});
    }

    /** The index goes as far as the table's kind tells. */
    private static void keptAt() {
        ranges("keptAt", (x, a) -> x.keptAt(a[0], 0), new int[] {0, tables - 1});
        for (int i = 0; i < tables; i++) {
            int table = i;
            int kind = Script.fresh(scene).tableOf(table, 0);
            int last = kind == 0 ? 31 : kind == 1 ? NONE : 7;
            ranges("keptAt of " + table, (x, a) -> x.keptAt(table, a[0]), new int[] {0, last});
        }
    }

    private static void whatWouldBe() {
        int[] table = {0, tables - 1};
        ranges("errorBits", (x, a) -> x.errorBits(a[0]), table);
        ranges("byError", (x, a) -> x.byError(a[0]), new int[] {0, NONE});
        ranges("would", (x, a) -> x.would(a[0], a[1]), table, THING);
        ranges("raises", (x, a) -> x.raises(a[0]), table);
        ranges("both", (x, a) -> x.both(a[0], a[1], a[2]), table, table, new int[] {0, 3});
    }

    private static void texts() {
        ranges("type", (x, a) -> x.type(a[0]), new int[] {32, 126});
        ranges("fault", (x, a) -> x.fault(a[0]), new int[] {0, 2});
    }

    private static void ranges(String name, Call call, int[]... ranges) {
        boolean possible = true;
        for (int[] range : ranges) {
            possible = possible && range[0] <= range[1];
        }
        for (int i = 0; i < ranges.length; i++) {
            int first = ranges[i][0];
            int last = ranges[i][1];
            due(name, call, ranges, i, first - 1, false);
            due(name, call, ranges, i, Integer.MIN_VALUE, false);
            due(name, call, ranges, i, first, possible);
            if (last != NONE) {
                due(name, call, ranges, i, last + 1, false);
                due(name, call, ranges, i, NONE, false);
                due(name, call, ranges, i, Math.max(first, last), possible);
            } else {
                due(name, call, ranges, i, NONE, possible);
            }
        }
    }

    /** With no table at all, a table's range is empty, and nothing is in it. */
    private static void due(String name, Call call, int[][] ranges, int place, int argument, boolean in) {
        int[] with = new int[ranges.length];
        StringBuilder told = new StringBuilder(where + name);
        for (int i = 0; i < with.length; i++) {
            with[i] = i == place ? argument : ranges[i][0];
            told.append(i == 0 ? "(" : ", ").append(with[i]);
        }
        int answer = call.on(Script.fresh(scene), with);
        Check.due(told + ") is INVALID_ARGUMENT", answer == Check.INVALID ? 1 : 0, in ? 0 : 1);
    }

    /** So that the tests above are in the states that they tell. */
    private static void scenesAreAsTold() {
        int[][] due = {{0, 0, 0, 0}, {5, 76, 2, 4}, {6, 20000, 8, 4}};
        int[] lengths = {0, 27, 80};
        Script[] scripts = {Scenes.empty(), Scenes.roomy(), Scenes.full()};
        for (int i = 0; i < scripts.length; i++) {
            Counted x = Script.fresh(scripts[i]);
            int[] whats = {0, 1, 4, 6};
            for (int k = 0; k < whats.length; k++) {
                Check.due("scene " + i + ", count(" + whats[k] + ")", x.count(whats[k]), due[i][k]);
            }
            Check.due("scene " + i + ", text", x.count(7), lengths[i]);
        }
    }
}

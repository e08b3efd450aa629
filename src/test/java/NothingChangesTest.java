/**
 * "A call that returns an error changes nothing", and no question does: after many of them all that can be seen is as it
 * was without them, the history and the text too.
 */
public final class NothingChangesTest {
    private static final int MIN = Integer.MIN_VALUE;
    private static final int MAX = Integer.MAX_VALUE;

    public static void main(String[] args) {
        Script[] scenes = {Scenes.empty(), Scenes.roomy(), Scenes.full()};
        String[] names = {"without tables", "in a roomy state", "in a full state"};
        int[] tables = {0, 5, 6};
        for (int i = 0; i < scenes.length; i++) {
            int many = tables[i];
            Look.same("invalid arguments " + names[i], Script.both(scenes[i], x -> invalid(x, many)), scenes[i]);
            Look.same("questions " + names[i], Script.both(scenes[i], x -> questions(x, many)), scenes[i]);
        }
        Look.same("refusals without tables", Script.both(Scenes.empty(), NothingChangesTest::refusedWithoutTables),
            Scenes.empty());
        Look.same("refusals in a roomy state", Script.both(Scenes.roomy(), NothingChangesTest::refusedWithTables),
            Scenes.roomy());
        Look.same("refusals in a full state", Script.both(Scenes.full(), NothingChangesTest::refusedAtTheLimits),
            Scenes.full());
        rowBeyondTheLimit();
        textAfterARefusedSign();
        faultDoesNothing();
        refusedPlay();
        Check.end("NothingChangesTest");
    }

    private static void is(int answer, int due) {
        Check.due("a refused call", answer, due);
    }

    private static void invalid(Counted x, int tables) {
        int[] noTables = {-1, tables, MIN, MAX};
        for (int no : noTables) {
            is(x.add(no, 0), Check.INVALID);
            is(x.addRow(no, 0, 1, 100), Check.INVALID);
            is(x.merge(no, 0), Check.INVALID);
            is(x.merge(0, no), Check.INVALID);
            is(x.merge(no, no), Check.INVALID);
            is(x.reset(no), Check.INVALID);
        }
        for (int thing : new int[] {-1, 1000}) {
            is(x.add(0, thing), Check.INVALID);
            is(x.addRow(0, thing, 1, 2), Check.INVALID);
            is(x.addRow(0, 0, thing, 2), Check.INVALID);
        }
        is(x.addRow(0, 0, 1, 0), Check.INVALID);
        is(x.addRow(0, 0, 1, 101), Check.INVALID);
        is(x.merge(0, 0), Check.INVALID);
        is(x.table(-1, 0), Check.INVALID);
        is(x.table(3, 0), Check.INVALID);
        is(x.table(0, -1), Check.INVALID);
        is(x.table(0, 10), Check.INVALID);
        is(x.type(31), Check.INVALID);
        is(x.type(127), Check.INVALID);
        is(x.fault(-1), Check.INVALID);
        is(x.fault(3), Check.INVALID);
    }

    private static void questions(Counted x, int tables) {
        for (int table = -1; table <= tables; table++) {
            x.tableOf(table, 2);
            x.keptAt(table, 0);
            x.keptAt(table, 9);
            x.sawAt(table, 1, 1);
            x.has(table, 17, 0);
            x.has(table, 17, 1);
            x.errorBits(table);
            x.would(table, 3 * table + 400);
            x.would(table, 999);
            x.raises(table);
            for (int what = -1; what <= 4; what++) {
                x.both(table, tables - 1, what);
            }
        }
        for (int what = -1; what <= 8; what++) {
            x.count(what);
            x.fault(what);
            x.logAt(what, 0);
            x.byError(what);
            x.hash(what, what);
        }
    }

    private static void refusedWithoutTables(Counted x) {
        is(x.undo(), Check.NOT_POSSIBLE);
        is(x.byError(0), Check.NOT_FOUND);
        is(x.logAt(0, 0), Check.NOT_FOUND);
        is(x.fault(0), Check.NOT_FOUND);
        is(x.fault(2), Check.NOT_FOUND);
        is(x.merge(0, 1), Check.INVALID);
    }

    private static void refusedWithTables(Counted x) {
        is(x.merge(0, 2), Check.NOT_POSSIBLE);
        is(x.merge(4, 0), Check.NOT_POSSIBLE);
        is(x.merge(2, 4), Check.NOT_POSSIBLE);
        is(x.both(0, 2, 0), Check.NOT_POSSIBLE);
        is(x.both(2, 4, 2), Check.NOT_POSSIBLE);
        is(x.keptAt(2, 8), Check.NOT_FOUND);
        is(x.sawAt(0, 999, 0), Check.NOT_FOUND);
        is(x.logAt(2, 0), Check.NOT_FOUND);
        is(x.byError(5), Check.NOT_FOUND);
        is(x.fault(0), Check.NOT_FOUND);
    }

    private static void refusedAtTheLimits(Counted x) {
        is(x.table(0, 0), Check.LIMIT);
        is(x.add(0, 0), Check.LIMIT);
        is(x.add(5, 1), Check.LIMIT);
        is(x.addRow(0, 0, 0, 1), Check.LIMIT);
        is(x.addRow(2, 0, 999, 100), Check.LIMIT);
        is(x.merge(0, 1), Check.NOT_POSSIBLE);
        is(x.type(' '), Check.LIMIT);
        is(x.type('~'), Check.LIMIT);
        is(x.play(), Check.NOT_POSSIBLE);
        is(x.logAt(8, 0), Check.NOT_FOUND);
        is(x.byError(6), Check.NOT_FOUND);
    }

    /** A row that goes beyond the limit of the time is not begun. */
    private static void rowBeyondTheLimit() {
        Script before = x -> {
            x.table(0, 3);
            Scenes.atTime(x, 19960);
        };
        Look.same("a row beyond the limit", Script.both(before, x -> {
            is(x.addRow(0, 500, 1, 41), Check.LIMIT);
            is(x.addRow(0, 500, 1, 100), Check.LIMIT);
        }), before);
    }

    private static void textAfterARefusedSign() {
        Counted x = new Counted();
        Check.type(x, "k0,0");
        is(x.type(31), Check.INVALID);
        is(x.type(127), Check.INVALID);
        is(x.type(256 + ';'), Check.INVALID);
        Check.due("the sign after it", x.type(';'), 5);
        Check.due("the text is as typed", x.play(), 1);
        Counted y = new Counted();
        Check.type(y, "k0,0;k0,0;a0,1;a0,2;a0,3;a0,4;a0,5;a0,6;a0,7;a0,8;a0,9;a0,1;a0,2;a0,3;z00;k1,01;");
        Check.due("80 signs", y.count(7), 80);
        is(y.type('z'), Check.LIMIT);
        is(y.type('0'), Check.LIMIT);
        Check.due("the text is as typed", y.play(), 16);
        Check.due("its first command too", y.tableOf(0, 0), 0);
        Check.due("its last command too", y.tableOf(2, 0), 1);
    }

    /** To tell the fault, the commands ahead of it are done, but not on what there is. */
    private static void faultDoesNothing() {
        Script before = x -> {
            x.table(0, 0);
            x.add(0, 5);
            Check.type(x, "k1,1;a1,3;z0;s0,1,1,9;k0,0;m2,0;m0,1;");
        };
        Look.same("asking for the fault", Script.both(before, x -> {
            Check.due("position", x.fault(0), 32);
            Check.due("reason", x.fault(1), 2);
            Check.due("cause", x.fault(2), Check.NOT_POSSIBLE);
        }), before);
    }

    private static void refusedPlay() {
        for (String end : new String[] {"m0,1;", "z3", ";", "k3,0;", "a0,1000;", "a4,0;"}) {
            Script before = x -> {
                x.table(0, 0);
                x.add(0, 5);
                Check.type(x, "k1,1;a1,3;z0;s0,1,1,9;k0,0;m2,0;" + end);
            };
            Look.same("a refused play of .." + end, Script.both(before, x -> is(x.play(), Check.NOT_POSSIBLE)), before);
        }
    }
}

/**
 * "If several errors apply to a call, INVALID_ARGUMENT is returned rather than NOT_POSSIBLE, NOT_POSSIBLE rather than
 * LIMIT_REACHED, and LIMIT_REACHED rather than NOT_FOUND": each pair that can apply together, ahead of it the second
 * error alone.
 */
public final class SeveralErrorsTest {
    private static final int MIN = Integer.MIN_VALUE;
    private static final int MAX = Integer.MAX_VALUE;
    private static final int[] NO_KINDS = {-1, 3, MIN, MAX};
    private static final int[] NO_SEEDS = {-1, 10, MIN, MAX};
    private static final int[] NO_THINGS = {-1, 1000, MIN, MAX};
    private static final int[] NO_TABLES_OF_6 = {-1, 6, MIN, MAX};

    public static void main(String[] args) {
        tableOfSix();
        addWithoutTime();
        rowWithoutTime();
        rowWithTooLittleTime();
        typeIntoAFullText();
        bothOfUnlikeTables();
        mergeOfATableThereIsNot();
        whatIsNotThere();
        causes();
        Check.end("SeveralErrorsTest");
    }

    private static void due(String what, int answer, int due) {
        Check.due(what, answer, due);
    }

    private static void tableOfSix() {
        Counted x = Script.fresh(Scenes.full());
        due("a seventh", x.table(0, 0), Check.LIMIT);
        due("a seventh", x.table(2, 9), Check.LIMIT);
        for (int no : NO_KINDS) {
            due("a seventh of kind " + no, x.table(no, 0), Check.INVALID);
        }
        for (int no : NO_SEEDS) {
            due("a seventh of seed " + no, x.table(2, no), Check.INVALID);
            due("a seventh of both", x.table(3, no), Check.INVALID);
        }
    }

    private static void addWithoutTime() {
        Counted x = Script.fresh(Scenes.full());
        due("at 20000", x.add(0, 0), Check.LIMIT);
        due("at 20000", x.add(5, 999), Check.LIMIT);
        for (int no : NO_TABLES_OF_6) {
            due("at 20000, table " + no, x.add(no, 0), Check.INVALID);
        }
        for (int no : NO_THINGS) {
            due("at 20000, thing " + no, x.add(5, no), Check.INVALID);
            due("at 20000, both", x.add(6, no), Check.INVALID);
        }
    }

    private static void rowWithoutTime() {
        Counted x = Script.fresh(Scenes.full());
        due("at 20000", x.addRow(0, 0, 0, 1), Check.LIMIT);
        due("at 20000", x.addRow(5, 999, 999, 100), Check.LIMIT);
        for (int no : NO_TABLES_OF_6) {
            due("at 20000, table " + no, x.addRow(no, 0, 0, 1), Check.INVALID);
        }
        for (int no : NO_THINGS) {
            due("at 20000, thing " + no, x.addRow(0, no, 0, 1), Check.INVALID);
            due("at 20000, step " + no, x.addRow(0, 0, no, 1), Check.INVALID);
        }
        for (int no : new int[] {0, -1, 101, 20000, MIN, MAX}) {
            due("at 20000, " + no + " things", x.addRow(0, 0, 0, no), Check.INVALID);
        }
    }

    private static void rowWithTooLittleTime() {
        Counted x = new Counted();
        x.table(0, 0);
        Scenes.atTime(x, 19950);
        due("51 at 19950", x.addRow(0, 0, 1, 51), Check.LIMIT);
        due("100 at 19950", x.addRow(0, 0, 1, 100), Check.LIMIT);
        due("101 at 19950", x.addRow(0, 0, 1, 101), Check.INVALID);
        due("no table", x.addRow(1, 0, 1, 51), Check.INVALID);
        due("no thing", x.addRow(0, 1000, 1, 51), Check.INVALID);
        due("no step", x.addRow(0, 0, 1000, 51), Check.INVALID);
        due("50 at 19950", x.addRow(0, 0, 1, 50), x.tableOf(0, 2));
    }

    private static void typeIntoAFullText() {
        Counted x = Script.fresh(Scenes.full());
        due("a full text", x.type(32), Check.LIMIT);
        due("a full text", x.type(126), Check.LIMIT);
        for (int no : new int[] {31, 127, 0, -1, 128, 255, 256 + 'k', 65536 + ';', MIN, MAX}) {
            due("a full text, sign " + no, x.type(no), Check.INVALID);
        }
    }

    /** A what out of range, or a table that is not there, comes ahead of unlike kinds and seeds. */
    private static void bothOfUnlikeTables() {
        Counted x = new Counted();
        x.table(0, 0);
        x.table(1, 0);
        x.table(0, 1);
        for (int other = 1; other <= 2; other++) {
            due("unlike", x.both(0, other, 0), Check.NOT_POSSIBLE);
            due("unlike", x.both(other, 0, 2), Check.NOT_POSSIBLE);
            for (int no : new int[] {-1, 4, MIN, MAX}) {
                due("unlike, what " + no, x.both(0, other, no), Check.INVALID);
                due("unlike, what " + no, x.both(other, 0, no), Check.INVALID);
            }
            for (int no : new int[] {-1, 3, MIN, MAX}) {
                for (int what = 0; what < 4; what++) {
                    due("no table " + no, x.both(no, other, what), Check.INVALID);
                    due("no table " + no, x.both(other, no, what), Check.INVALID);
                }
            }
        }
    }

    private static void mergeOfATableThereIsNot() {
        Counted x = new Counted();
        x.table(0, 0);
        x.table(1, 0);
        due("unlike", x.merge(0, 1), Check.NOT_POSSIBLE);
        due("unlike", x.merge(1, 0), Check.NOT_POSSIBLE);
        for (int no : new int[] {-1, 2, 5, 6, MIN, MAX}) {
            due("no table " + no, x.merge(no, 1), Check.INVALID);
            due("no table " + no, x.merge(1, no), Check.INVALID);
            due("no table " + no + " twice", x.merge(no, no), Check.INVALID);
        }
        due("the same", x.merge(0, 0), Check.INVALID);
        due("the same", x.merge(1, 1), Check.INVALID);
    }

    /** An argument out of its range comes ahead of what is not found. */
    private static void whatIsNotThere() {
        Counted x = new Counted();
        for (int i = 0; i < 3; i++) {
            x.table(i, 0);
        }
        due("keptAt", x.keptAt(1, 0), Check.NOT_FOUND);
        due("keptAt below", x.keptAt(1, -1), Check.INVALID);
        due("keptAt of no table", x.keptAt(3, 0), Check.INVALID);
        due("keptAt of no table, beyond", x.keptAt(3, MAX), Check.INVALID);
        due("sawAt", x.sawAt(0, 0, 1), Check.NOT_FOUND);
        due("sawAt, what 2", x.sawAt(0, 0, 2), Check.INVALID);
        due("sawAt, what -1", x.sawAt(0, MAX, -1), Check.INVALID);
        due("sawAt below", x.sawAt(0, -1, 0), Check.INVALID);
        due("sawAt of no table", x.sawAt(3, 0, 0), Check.INVALID);
        due("logAt", x.logAt(0, 2), Check.NOT_FOUND);
        due("logAt, what 3", x.logAt(0, 3), Check.INVALID);
        due("logAt, what -1", x.logAt(MAX, -1), Check.INVALID);
        due("logAt below", x.logAt(-1, 0), Check.INVALID);
        due("byError", x.byError(3), Check.NOT_FOUND);
        due("byError below", x.byError(-1), Check.INVALID);
        due("errorBits", x.errorBits(0), Check.NOT_FOUND);
        due("errorBits of no table", x.errorBits(3), Check.INVALID);
        due("fault", x.fault(2), Check.NOT_FOUND);
        due("fault 3", x.fault(3), Check.INVALID);
        due("fault -1", x.fault(-1), Check.INVALID);
        x.type('z');
        due("fault 2 of reason 1", x.fault(2), Check.NOT_FOUND);
        due("fault 3 of reason 1", x.fault(3), Check.INVALID);
        for (int row = 0; row < 10; row++) {
            x.addRow(0, 100 * row, 1, 100);
        }
        due("raises", x.raises(0), Check.NOT_FOUND);
        due("raises of no table", x.raises(3), Check.INVALID);
    }

    /** The cause is the call's own error code, so the same goes ahead of the same. */
    private static void causes() {
        String[] invalid = {"k3,0;", "k0,10;", "a6,0;", "s6,0,0,1;", "s0,0,0,0;", "s0,0,0,101;", "m6,0;", "m1,1;"};
        String[] limits = {"k0,0;", "k2,9;", "a0,0;", "a5,999;", "s0,0,0,1;", "s5,999,999,100;"};
        for (String text : invalid) {
            cause(text, Check.INVALID);
        }
        for (String text : limits) {
            cause(text, Check.LIMIT);
        }
        cause("m0,1;", Check.NOT_POSSIBLE);
    }

    private static void cause(String text, int due) {
        Counted x = Script.fresh(Scenes.full());
        Check.retype(x, text);
        due(text + ": reason", x.fault(1), 2);
        due(text + ": cause", x.fault(2), due);
    }
}

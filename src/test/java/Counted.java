/**
 * A RoughTables that counts its calls. What an object answers after its 512th call is free, so a test that asks for more
 * would refuse a right program: it is told as wrong here.
 */
final class Counted {
    static final int MOST_CALLS = 512;

    private final RoughTables x = new RoughTables();
    private int calls;

    private RoughTables next() {
        calls++;
        if (calls == MOST_CALLS + 1) {
            StackTraceElement[] places = new Throwable().getStackTrace();
            Check.due("too many calls of one object: " + places[2] + ", " + places[3], calls, MOST_CALLS);
        }
        return x;
    }

    int callsLeft() {
        return MOST_CALLS - calls;
    }

    int table(int kind, int seed) {
        return next().table(kind, seed);
    }

    int add(int table, int thing) {
        return next().add(table, thing);
    }

    int addRow(int table, int thing, int step, int many) {
        return next().addRow(table, thing, step, many);
    }

    int merge(int into, int from) {
        return next().merge(into, from);
    }

    int reset(int table) {
        return next().reset(table);
    }

    int tableOf(int table, int what) {
        return next().tableOf(table, what);
    }

    int keptAt(int table, int index) {
        return next().keptAt(table, index);
    }

    int sawAt(int table, int index, int what) {
        return next().sawAt(table, index, what);
    }

    int hash(int thing, int seed) {
        return next().hash(thing, seed);
    }

    int has(int table, int thing, int what) {
        return next().has(table, thing, what);
    }

    int logAt(int index, int what) {
        return next().logAt(index, what);
    }

    int count(int what) {
        return next().count(what);
    }

    int errorBits(int table) {
        return next().errorBits(table);
    }

    int byError(int place) {
        return next().byError(place);
    }

    int would(int table, int thing) {
        return next().would(table, thing);
    }

    int raises(int table) {
        return next().raises(table);
    }

    int both(int one, int other, int what) {
        return next().both(one, other, what);
    }

    int undo() {
        return next().undo();
    }

    int type(int character) {
        return next().type(character);
    }

    int clearText() {
        return next().clearText();
    }

    int fault(int what) {
        return next().fault(what);
    }

    int play() {
        return next().play();
    }
}

/** Runs of 512 calls, the same on the program and on the model, with every answer compared. */
public final class ModelTest {
    private static final int RUNS = 400;
    private static final int MOST_CALLS_OF_A_STEP = 100;
    private static final int MOST_QUESTIONS_AT_THE_END = 150;

    private static long seed = 1;
    private static Counted x;
    private static RoughModel m;
    private static String run;

    public static void main(String[] args) {
        for (int i = 0; i < RUNS; i++) {
            seed = i * 7919L + 1;
            x = new Counted();
            m = new RoughModel();
            int atTheEnd = MOST_CALLS_OF_A_STEP + below(MOST_QUESTIONS_AT_THE_END - MOST_CALLS_OF_A_STEP);
            while (x.callsLeft() > atTheEnd) {
                run = "run " + i + ", " + x.callsLeft() + " calls left: ";
                step(i % 6);
            }
            while (x.callsLeft() > 0) {
                run = "run " + i + ", " + x.callsLeft() + " calls left: ";
                question();
            }
        }
        Check.end("ModelTest");
    }

    private static int below(int bound) {
        seed = seed * 6364136223846793005L + 1442695040888963407L;
        return (int) ((seed >>> 33) % bound);
    }

    /** Mostly within 0 to last, now and then just in, just out or far out of it. */
    private static int near(int last) {
        int dice = below(40);
        int[] odd = {-1, last + 1, 0, last, Integer.MIN_VALUE, Integer.MAX_VALUE};
        return dice < odd.length && below(2) == 0 ? odd[dice] : below(last + 1);
    }

    private static int aTable() {
        return below(12) == 0 ? near(6) : below(Math.max(1, m.count(0)));
    }

    /** A run's mood: of everything, of texts, of rows, of merges, up to the limit of the time, of single things. */
    private static void step(int mood) {
        int dice = below(100);
        if (m.count(0) < 2 && below(3) > 0) {
            table();
        } else if (mood == 1 && dice < 30) {
            text();
        } else if (mood == 2 && dice < 50) {
            row(1 + below(100));
        } else if (mood == 3 && dice < 50) {
            merge();
        } else if (mood == 4) {
            fill();
        } else if (mood == 5 && dice < 50) {
            add();
        } else if (dice % 3 == 0) {
            question();
        } else {
            change();
        }
    }

    private static void change() {
        switch (below(14)) {
            case 0: table(); break;
            case 1: case 2: case 3: add(); break;
            case 4: row(near(101)); break;
            case 5: case 6: case 7: row(below(9)); break;
            case 8: case 9: merge(); break;
            case 10: reset(); break;
            case 11: undo(); break;
            case 12: text(); break;
            default: play(); break;
        }
    }

    private static void question() {
        switch (below(15)) {
            case 0: case 1: case 2: tableOf(); break;
            case 3: case 4: keptAt(); break;
            case 5: sawAt(); break;
            case 6: hash(); break;
            case 7: has(); break;
            case 8: logAt(); break;
            case 9: count(); break;
            case 10: errorBits(); break;
            case 11: byError(); break;
            case 12: would(); break;
            case 13: both(); break;
            default: if (below(3) == 0) { raises(); } else { fault(); } break;
        }
    }

    private static void table() {
        int kind = near(2);
        int aSeed = below(3) > 0 ? 3 : near(9);
        Check.due(run + "table(" + kind + ", " + aSeed + ")", x.table(kind, aSeed), m.table(kind, aSeed));
    }

    private static void add() {
        int t = aTable();
        int thing = near(999);
        Check.due(run + "add(" + t + ", " + thing + ")", x.add(t, thing), m.add(t, thing));
    }

    private static void row(int many) {
        int t = aTable();
        int thing = near(999);
        int step = below(2) == 0 ? below(9) : near(999);
        Check.due(run + "addRow(" + t + ", " + thing + ", " + step + ", " + many + ")",
            x.addRow(t, thing, step, many), m.addRow(t, thing, step, many));
    }

    private static void merge() {
        int one = aTable();
        int other = aTable();
        Check.due(run + "merge(" + one + ", " + other + ")", x.merge(one, other), m.merge(one, other));
    }

    private static void reset() {
        int t = aTable();
        Check.due(run + "reset(" + t + ")", x.reset(t), m.reset(t));
    }

    private static void tableOf() {
        int t = aTable();
        int what = near(9);
        Check.due(run + "tableOf(" + t + ", " + what + ")", x.tableOf(t, what), m.tableOf(t, what));
    }

    private static void keptAt() {
        int t = aTable();
        int index = below(2) == 0 ? near(7) : near(31);
        Check.due(run + "keptAt(" + t + ", " + index + ")", x.keptAt(t, index), m.keptAt(t, index));
    }

    private static void sawAt() {
        int t = aTable();
        int index = below(3) == 0 ? near(999) : below(3 + Math.max(0, m.tableOf(t, 3)));
        int what = near(1);
        Check.due(run + "sawAt(" + t + ", " + index + ", " + what + ")", x.sawAt(t, index, what), m.sawAt(t, index, what));
    }

    private static void hash() {
        int thing = near(999);
        int aSeed = near(9);
        Check.due(run + "hash(" + thing + ", " + aSeed + ")", x.hash(thing, aSeed), m.hash(thing, aSeed));
    }

    private static void has() {
        int t = aTable();
        int thing = near(999);
        int what = near(1);
        Check.due(run + "has(" + t + ", " + thing + ", " + what + ")", x.has(t, thing, what), m.has(t, thing, what));
    }

    private static void logAt() {
        int index = near(8);
        int what = near(2);
        Check.due(run + "logAt(" + index + ", " + what + ")", x.logAt(index, what), m.logAt(index, what));
    }

    private static void count() {
        int what = near(7);
        Check.due(run + "count(" + what + ")", x.count(what), m.count(what));
    }

    private static void errorBits() {
        int t = aTable();
        Check.due(run + "errorBits(" + t + ")", x.errorBits(t), m.errorBits(t));
    }

    private static void byError() {
        int place = near(6);
        Check.due(run + "byError(" + place + ")", x.byError(place), m.byError(place));
    }

    private static void would() {
        int t = aTable();
        int thing = near(999);
        Check.due(run + "would(" + t + ", " + thing + ")", x.would(t, thing), m.would(t, thing));
    }

    private static void raises() {
        int t = aTable();
        Check.due(run + "raises(" + t + ")", x.raises(t), m.raises(t));
    }

    private static void both() {
        int one = aTable();
        int other = aTable();
        int what = near(3);
        Check.due(run + "both(" + one + ", " + other + ", " + what + ")", x.both(one, other, what), m.both(one, other, what));
    }

    private static void undo() {
        int many = 1 + below(5);
        for (int i = 0; i < many; i++) {
            Check.due(run + "undo()", x.undo(), m.undo());
        }
    }

    private static void fault() {
        int what = near(2);
        Check.due(run + "fault(" + what + ")", x.fault(what), m.fault(what));
    }

    private static void play() {
        Check.due(run + "play()", x.play(), m.play());
    }

    private static void clearText() {
        Check.due(run + "clearText()", x.clearText(), m.clearText());
    }

    private static void type(String signs) {
        for (int i = 0; i < signs.length(); i++) {
            int sign = signs.charAt(i);
            Check.due(run + "type(" + sign + ")", x.type(sign), m.type(sign));
        }
    }

    private static void text() {
        if (below(3) == 0 || m.text.length() > 60 && below(2) == 0) {
            clearText();
        }
        int many = 1 + below(4);
        for (int i = 0; i < many; i++) {
            type(command());
        }
        for (int what = 0; what < 3; what++) {
            Check.due(run + "fault(" + what + ")", x.fault(what), m.fault(what));
        }
        play();
    }

    private static String number(int last) {
        int n = below(25) == 0 ? below(1200) : below(last + 1);
        String digits = Integer.toString(n);
        return below(10) == 0 ? "00".substring(0, Math.min(2, below(3))) + digits : digits;
    }

    private static String command() {
        int last = Math.max(0, m.count(0) - (below(8) == 0 ? 0 : 1));
        String made;
        switch (below(6)) {
            case 0: made = "k" + number(2) + "," + (below(2) == 0 ? "3" : number(9)) + ";"; break;
            case 1: made = "a" + number(last) + "," + number(999) + ";"; break;
            case 2: case 3: made = "s" + number(last) + "," + number(999) + "," + number(9) + "," + number(100) + ";"; break;
            case 4: made = "m" + number(last) + "," + number(last) + ";"; break;
            default: made = "z" + number(last) + ";"; break;
        }
        if (below(20) == 0) {
            int at = below(made.length());
            made = made.substring(0, at) + "kasmz,;0 ~".charAt(below(10)) + made.substring(at + below(2));
        }
        return made;
    }

    /** A text of long rows, played until the time is at its limit. */
    private static void fill() {
        if (m.text.length() < 60) {
            clearText();
            for (int i = 0; i < 6; i++) {
                type("s" + Math.max(0, m.count(0) - 1 - below(2)) + "," + below(1000) + "," + below(10) + ",100;");
            }
        }
        int dice = below(10);
        if (dice < 5 && m.fault(1) < 0) {
            play();
        } else if (dice < 8) {
            row(100 - below(3));
        } else if (dice < 9) {
            row(near(100));
        } else {
            question();
        }
    }
}

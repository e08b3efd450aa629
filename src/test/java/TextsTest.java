/** Promises 20 to 23: texts. */
public final class TextsTest {
    public static void main(String[] args) {
        type();
        clearText();
        faultOfForm();
        formsThatAreRight();
        faultOfRefusal();
        faultAfterCommands();
        faultArguments();
        play();
        playIsOneChange();
        playToTheLimit();
        fullText();
        Check.end("TextsTest");
    }

    private static void type() {
        Counted x = new Counted();
        int[] wrong = {31, 127, 0, -1, 10, 255, Integer.MIN_VALUE, Integer.MAX_VALUE, 65536 + 'k'};
        for (int sign : wrong) {
            Check.due("type(" + sign + ")", x.type(sign), Check.INVALID);
        }
        Check.due("nothing typed", x.count(7), 0);
        Check.due("type(32)", x.type(32), 1);
        Check.due("type(126)", x.type(126), 2);
        for (int i = 3; i <= 80; i++) {
            Check.due("type", x.type('0'), i);
        }
        Check.due("a full text", x.type('0'), Check.LIMIT);
        Check.due("a full text, wrong sign", x.type(127), Check.INVALID);
        Check.due("its length", x.count(7), 80);
        Check.due("type is no change", x.count(6), 0);
    }

    private static void clearText() {
        Counted x = new Counted();
        Check.due("empty", x.clearText(), 0);
        Check.type(x, "k0,0;");
        Check.due("length", x.clearText(), 5);
        Check.due("empty again", x.clearText(), 0);
        Check.due("length", x.count(7), 0);
        Check.due("nothing to play", x.play(), 0);
        Check.due("typed anew", x.type('z'), 1);
    }

    private static void faultIs(Counted x, String text, int position, int reason, int cause) {
        Check.retype(x, text);
        Check.due(text + ": position", x.fault(0), position);
        Check.due(text + ": reason", x.fault(1), reason);
        Check.due(text + ": cause", x.fault(2), cause);
        Check.due(text + ": play", x.play(), Check.NOT_POSSIBLE);
    }

    private static void faultOfForm() {
        Counted x = new Counted();
        x.table(0, 0);
        x.table(0, 0);
        String[] wrong = {"k", "k0", "k0,", "k0,0", "k,0;", "k0,;", "k0;", "k0,0,0;", "k0000,0;", "k0,0000;", "k 0,0;",
            "k0 ,0;", "k0,0 ;", " k0,0;", "K0,0;", "x0,0;", ";", "0;", "k-1,0;", "k0.0;", "a0;", "a0,1", "a0,1,2;", "a0,1000;",
            "s0,0,0;", "s0,0,0,1", "s0,0,0,1,1;", "s0,0,0,;", "s0,0,0,0001;", "m0;", "m0,1", "m0,1,1;", "m,;", "z", "z0", "z;",
            "z0,0;", "z0000;", "zz0;", "~", "k0,0:", "k0;0;", "k0/,0;", "k0:,0;"};
        for (String text : wrong) {
            faultIs(x, text, 0, 1, Check.NOT_FOUND);
        }
        Check.due("nothing was done", x.count(6), 2);
        faultIs(x, "a0,1;;", 5, 1, Check.NOT_FOUND);
        faultIs(x, "a0,1; a0,1;", 5, 1, Check.NOT_FOUND);
        faultIs(x, "a0,1;a0,2;z", 10, 1, Check.NOT_FOUND);
        // The form is looked at first: what is out of range all the same has reason 1.
        faultIs(x, "m7,7", 0, 1, Check.NOT_FOUND);
        Check.due("nothing was done", x.count(1), 0);
    }

    private static void formsThatAreRight() {
        Counted x = new Counted();
        x.table(2, 0);
        x.table(2, 0);
        String[] right = {"k0,0;", "k002,009;", "a0,0;", "a000,007;", "a1,999;", "s0,0,0,1;", "s000,999,999,100;", "m0,1;",
            "m001,000;", "z0;", "z001;", ""};
        for (String text : right) {
            Check.retype(x, text);
            for (int what = 0; what < 3; what++) {
                Check.due(text + ": fault(" + what + ")", x.fault(what), Check.NOT_FOUND);
            }
            Check.due(text + ": play", x.play(), text.isEmpty() ? 0 : 1);
        }
        Check.due("tables", x.count(0), 4);
        Check.due("kind", x.tableOf(3, 0), 2);
        Check.due("seed", x.tableOf(3, 1), 9);
        Check.due("time", x.count(1), 104);
        Check.due("resets", x.count(4), 2);
    }

    private static void faultOfRefusal() {
        Counted x = new Counted();
        x.table(0, 0);
        x.table(1, 0);
        x.add(0, 1);
        String[] invalid = {"k3,0;", "k0,10;", "k999,0;", "a2,0;", "a999,0;", "s2,0,0,1;", "s0,0,0,0;", "s0,0,0,101;",
            "s0,0,0,999;", "m0,0;", "m0,2;", "m2,0;", "z2;", "z999;", "m000,00;"};
        for (String text : invalid) {
            faultIs(x, text, 0, 2, Check.INVALID);
        }
        faultIs(x, "m0,1;", 0, 2, Check.NOT_POSSIBLE);
        faultIs(x, "k0,0;k0,0;k0,0;k0,0;k0,0;", 20, 2, Check.LIMIT);
        faultIs(x, "k0,0;k0,0;k0,0;k0,0;k0,10;", 20, 2, Check.INVALID);
        Check.due("nothing was done", x.count(0), 2);
        Check.due("nothing was recorded", x.count(6), 3);
    }

    private static void faultAfterCommands() {
        Counted x = new Counted();
        faultIs(x, "a0,1;", 0, 2, Check.INVALID);
        faultIs(x, "k0,3;a0,1;a1,1;", 10, 2, Check.INVALID);
        faultIs(x, "k0,3;k0,4;m0,1;", 10, 2, Check.NOT_POSSIBLE);
        faultIs(x, "k0,3;k0,3;m0,1;z2;", 15, 2, Check.INVALID);
        faultIs(x, "k0,3;k0,3;m0,1;z1", 15, 1, Check.NOT_FOUND);
        Check.due("no tables are left of it", x.count(0), 0);
        x.table(0, 3);
        Check.retype(x, "a1,5;");
        Check.due("cause", x.fault(2), Check.INVALID);
        x.table(0, 3);
        Check.due("no longer a fault", x.fault(2), Check.NOT_FOUND);
        x.undo();
        Check.due("a fault again", x.fault(0), 0);
    }

    private static void faultArguments() {
        Counted x = new Counted();
        int[] wrong = {-1, 3, Integer.MIN_VALUE, Integer.MAX_VALUE};
        String[] texts = {"", "k0,0;", "z9;", "z"};
        for (String text : texts) {
            Check.retype(x, text);
            for (int what : wrong) {
                Check.due(text + ": fault(" + what + ")", x.fault(what), Check.INVALID);
            }
        }
    }

    private static void play() {
        Counted x = new Counted();
        Check.due("an empty text", x.play(), 0);
        Check.due("is a change too", x.count(6), 1);
        Check.retype(x, "k0,3;k0,3;s1,1,11,30;a1,500;k0,3;a2,4;m2,1;z1;");
        Check.due("commands", x.play(), 8);
        Check.due("the text stays", x.count(7), 46);
        Check.due("tables", x.count(0), 3);
        Check.due("time", x.count(1), 32);
        Check.due("exact of 2", x.tableOf(2, 3), 32);
        Check.due("exact of 1", x.tableOf(1, 3), 0);
        Check.due("log", x.logAt(0, 2), 31);
        Check.due("log, told", x.logAt(0, 1), 28);
        Check.due("the last thing of 2", x.sawAt(2, 31, 0), 500);
        Check.due("its time", x.sawAt(2, 31, 1), 30);
        Check.due("once more", x.play(), 8);
        Check.due("tables", x.count(0), 6);
        Check.due("and not a third time", x.play(), Check.NOT_POSSIBLE);
        Check.due("a fault now", x.fault(2), Check.LIMIT);
        Check.due("states", x.count(6), 3);
    }

    private static void playIsOneChange() {
        Script before = x -> {
            x.table(0, 0);
            x.add(0, 9);
            Check.retype(x, "a0,1;a0,2;a0,3;a0,4;a0,5;z0;k1,1;");
        };
        Script after = x -> {
            before.on(x);
            Check.due("commands", x.play(), 7);
            Check.due("states", x.count(6), 3);
            Check.due("undo", x.undo(), 2);
        };
        Look.same("undone, as before", after, before);
        Counted x = Script.fresh(after);
        Check.due("the text is not undone", x.count(7), 33);
        x.clearText();
        for (int i = 0; i < 6; i++) {
            Check.due("nothing to do", x.play(), 0);
        }
        Check.due("states", x.count(6), 4);
        Check.due("undo", x.undo(), 3);
        Check.due("exact", x.tableOf(0, 3), 1);
    }

    private static void playToTheLimit() {
        Counted x = new Counted();
        x.table(1, 1);
        x.addRow(0, 0, 1, 79);
        Check.retype(x, "s0,0,1,100;s0,0,1,100;s0,0,1,100;s0,0,1,100;s0,0,1,100;s0,0,1,100;s0,0,1,100;");
        for (int i = 0; i < 28; i++) {
            Check.due("play", x.play(), 7);
        }
        Check.due("time", x.count(1), 19679);
        Check.due("beyond the limit", x.play(), Check.NOT_POSSIBLE);
        Check.due("position", x.fault(0), 33);
        Check.due("cause", x.fault(2), Check.LIMIT);
        Check.retype(x, "s0,0,1,100;s0,0,1,100;s0,0,1,100;s0,0,1,20;a0,0;a0,1000;");
        Check.due("position", x.fault(0), 48);
        Check.due("a form of four digits", x.fault(1), 1);
        Check.retype(x, "s0,0,1,100;s0,0,1,100;s0,0,1,100;s0,0,1,20;a0,0;a0,0;");
        Check.due("position", x.fault(0), 48);
        Check.due("cause", x.fault(2), Check.LIMIT);
        Check.retype(x, "s0,0,1,100;s0,0,1,100;s0,0,1,100;s0,0,1,20;a0,0;");
        Check.due("up to the limit", x.play(), 5);
        Check.due("time", x.count(1), 20000);
    }

    private static void fullText() {
        Counted x = new Counted();
        x.table(0, 0);
        StringBuilder text = new StringBuilder();
        for (int i = 0; i < 26; i++) {
            text.append("z0;");
        }
        Check.retype(x, text.toString());
        Check.due("26 commands", x.play(), 26);
        Check.due("how often reset", x.tableOf(0, 8), 26);
        Check.due("8 in the log", x.count(4), 8);
        x.type('z');
        x.type('0');
        Check.due("80 signs", x.count(7), 80);
        Check.due("no ; is left", x.fault(0), 78);
        Check.due("reason", x.fault(1), 1);
        Check.due("no room", x.type(';'), Check.LIMIT);
        Check.retype(x, text.substring(0, 75) + "a0,1;");
        Check.due("80 signs", x.count(7), 80);
        Check.due("no fault", x.fault(0), Check.NOT_FOUND);
        Check.due("26 commands", x.play(), 26);
        Check.due("the last one was done", x.tableOf(0, 3), 1);
    }
}

/**
 * The form of texts: each command with each number of each length, with each of its characters taken away, put twice or
 * changed into any other one, and cut off behind each of them; what the fault is then is told by a pattern.
 */
public final class FormsTest {
    private static final String[] COMMANDS = {"k1,2;", "a0,17;", "s1,2,3,4;", "m0,1;", "z1;"};

    public static void main(String[] args) {
        changedSigns();
        missingAndDoubledSigns();
        cutOff();
        lengthsOfNumbers();
        numbersAtTheirEdges();
        secondCommands();
        causesAreTheCallsOwn();
        Check.end("FormsTest");
    }

    private static void tables(Counted x) {
        x.table(0, 5);
        x.table(0, 5);
        x.table(1, 5);
    }

    /** Position, reason and cause by the pattern, the commands done on the model. */
    private static void asThePatternTells(String text) {
        Counted x = new Counted();
        tables(x);
        RoughModel m = new RoughModel();
        m.table(0, 5);
        m.table(0, 5);
        m.table(1, 5);
        for (int i = 0; i < text.length(); i++) {
            Check.due("length of " + text, x.type(text.charAt(i)), m.type(text.charAt(i)));
        }
        for (int what = 0; what < 3; what++) {
            Check.due(text + ": fault(" + what + ")", x.fault(what), m.fault(what));
        }
        Check.due(text + ": play", x.play(), m.play());
        Check.due(text + ": states", x.count(6), m.count(6));
        Check.due(text + ": the time", x.count(1), m.count(1));
        Check.due(text + ": tables", x.count(0), m.count(0));
        Check.due(text + ": resets", x.count(4), m.count(4));
        Check.due(text + ": the text stays", x.count(7), text.length());
    }

    private static void changedSigns() {
        for (String command : COMMANDS) {
            for (int at = 0; at < command.length(); at++) {
                for (char sign = 32; sign < 127; sign++) {
                    asThePatternTells(command.substring(0, at) + sign + command.substring(at + 1));
                    asThePatternTells(command.substring(0, at) + sign + command.substring(at));
                }
            }
        }
    }

    private static void missingAndDoubledSigns() {
        for (String command : COMMANDS) {
            for (int at = 0; at < command.length(); at++) {
                asThePatternTells(command.substring(0, at) + command.substring(at + 1));
                asThePatternTells(command.substring(0, at + 1) + command.substring(at));
                asThePatternTells("a1,5;" + command.substring(0, at) + command.substring(at + 1));
            }
        }
    }

    private static void cutOff() {
        for (String command : COMMANDS) {
            for (int length = 0; length <= command.length(); length++) {
                asThePatternTells(command.substring(0, length));
                asThePatternTells("m1,0;z0;" + command.substring(0, length));
            }
        }
    }

    /** "Numbers of one to three digits, 0 ahead allowed." */
    private static void lengthsOfNumbers() {
        String[] numbers = {"", "1", "01", "001", "0001", "0", "00", "000", "0000", "10", "010", "100", "0100", "999",
            "1000", "099", "101", "09", "+1", "-1", "1.", " 1"};
        for (String n : numbers) {
            for (String text : new String[] {"k#,1;", "k1,#;", "a#,1;", "a1,#;", "s#,1,1,1;", "s1,#,1,1;", "s1,1,#,1;",
                "s1,1,1,#;", "m#,0;", "m0,#;", "z#;"}) {
                asThePatternTells(text.replace("#", n));
            }
        }
    }

    private static void fault(String text, int position, int reason, int cause) {
        Counted x = new Counted();
        tables(x);
        Check.type(x, text);
        Check.due(text + ": position", x.fault(0), position);
        Check.due(text + ": reason", x.fault(1), reason);
        Check.due(text + ": cause", x.fault(2), cause);
    }

    private static void numbersAtTheirEdges() {
        String[] right = {"k0,0;", "k2,9;", "k002,009;", "a0,0;", "a2,999;", "a002,000;", "s0,0,0,1;", "s2,999,999,100;",
            "s002,000,000,001;", "m0,1;", "m1,0;", "m001,000;", "z0;", "z2;", "z002;"};
        for (String text : right) {
            fault(text, Check.NOT_FOUND, Check.NOT_FOUND, Check.NOT_FOUND);
        }
        String[] out = {"k3,0;", "k0,10;", "k003,000;", "k999,999;", "a3,0;", "a999,0;", "s3,0,0,1;", "s0,0,0,0;",
            "s0,0,0,000;", "s0,0,0,101;", "s0,0,0,999;", "m0,0;", "m2,2;", "m0,3;", "m3,0;", "m3,3;", "z3;", "z999;"};
        for (String text : out) {
            fault(text, 0, 2, Check.INVALID);
        }
        String[] noForm = {"a0,1000;", "s0,1000,0,1;", "s0,0,1000,1;", "s0,0,0,0100;", "k0,0000;", "z0000;", "m0000,1;"};
        for (String text : noForm) {
            fault(text, 0, 1, Check.NOT_FOUND);
        }
        fault("m0,2;", 0, 2, Check.NOT_POSSIBLE);
        fault("m2,1;", 0, 2, Check.NOT_POSSIBLE);
    }

    /** "The first command that is not possible, when those ahead of it are done." */
    private static void secondCommands() {
        String[] ahead = {"", "z0;", "k0,5;", "a1,7;", "m0,1;", "s0,998,1,5;", "k0,5;k0,5;k0,5;"};
        String[] then = {"z3;", "m3,0;", "a3,1;", "k1,1;", "m0,2;", "z0", ";", "z5;", "m5,4;", "s3,0,0,100;z3", "z3;z9;"};
        for (String first : ahead) {
            for (String second : then) {
                asThePatternTells(first + second);
            }
        }
        fault("z0;z3;z", 3, 2, Check.INVALID);
        fault("z0;z;z3;", 3, 1, Check.NOT_FOUND);
        fault("k2,5;m3,0;", 5, 2, Check.NOT_POSSIBLE);
        fault("k0,5;m3,0;k0,5;k0,5;k0,5;", 20, 2, Check.LIMIT);
        fault("k0,5;m3,0;k0,5;k0,5;k3,5;", 20, 2, Check.INVALID);
    }

    private interface Call {
        int on(Counted x);
    }

    /** "Its cause is then the error code that the call returns for it": each one by the call and by the text. */
    private static void causesAreTheCallsOwn() {
        int[] numbers = {0, 1, 2, 3, 5, 6, 9, 10, 100, 101, 999};
        for (Script scene : new Script[] {Scenes.empty(), FormsTest::tables, Scenes.full()}) {
            for (int first : numbers) {
                for (int second : numbers) {
                    cause(scene, "k" + first + "," + second + ";", x -> x.table(first, second));
                    cause(scene, "a" + first + "," + second + ";", x -> x.add(first, second));
                    cause(scene, "m" + first + "," + second + ";", x -> x.merge(first, second));
                    cause(scene, "s" + first + "," + second + ",7," + second + ";", x -> x.addRow(first, second, 7, second));
                }
                cause(scene, "z" + first + ";", x -> x.reset(first));
            }
        }
        for (int first = 0; first < 2; first++) {
            int table = first;
            sameState("k2," + table + ";", x -> x.table(2, table));
            sameState("a" + table + ",999;", x -> x.add(table, 999));
            sameState("m" + table + "," + (1 - table) + ";", x -> x.merge(table, 1 - table));
            sameState("s" + table + ",990,3,100;", x -> x.addRow(table, 990, 3, 100));
            sameState("z" + table + ";", x -> x.reset(table));
        }
    }

    private static void cause(Script scene, String text, Call call) {
        Counted x = Script.fresh(scene);
        Check.retype(x, text);
        int answer = call.on(Script.fresh(scene));
        Check.due(text + ": cause", x.fault(2), answer < 0 ? answer : Check.NOT_FOUND);
        Check.due(text + ": reason", x.fault(1), answer < 0 ? 2 : Check.NOT_FOUND);
        Check.due(text + ": position", x.fault(0), answer < 0 ? 0 : Check.NOT_FOUND);
        Check.due(text + ": play", x.play(), answer < 0 ? Check.NOT_POSSIBLE : 1);
    }

    /** A text of one command leads to what its call leads to. */
    private static void sameState(String text, Call call) {
        Script before = x -> {
            tables(x);
            x.addRow(0, 40, 7, 30);
            x.addRow(1, 70, 9, 30);
            Check.type(x, text);
        };
        Look.same(text, Script.both(before, x -> x.play()), Script.both(before, x -> call.on(x)));
    }
}

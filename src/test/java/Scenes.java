/** States that several tests begin with. */
final class Scenes {
    /** Seven rows of 100, 77 characters: played 28 times, the time is 19600 more. */
    static final String LONG_ROWS = "s0,0,1,100;s0,0,1,100;s0,0,1,100;s0,0,1,100;s0,0,1,100;s0,0,1,100;s0,0,1,100;";

    private Scenes() {
    }

    /** No tables. */
    static Script empty() {
        return x -> { };
    }

    /** Five tables, two of kind 0 and two of kind 1 alike, a log of 2, a history of 4 and a text without fault. */
    static Script roomy() {
        return x -> {
            for (int kind : new int[] {0, 0, 1, 1, 2}) {
                x.table(kind, 1);
            }
            x.addRow(3, 9, 1, 5);
            x.reset(3);
            x.reset(0);
            for (int table = 0; table < 5; table++) {
                x.addRow(table, 10 * table, 7, 12 + table);
            }
            x.add(0, 999);
            x.merge(2, 3);
            Check.type(x, "a1,7;z0;k2,3;s4,5,6,7;m3,2;");
        };
    }

    /** Six tables, the time 20000, a log of 8, a history of 4 and a text of 80 characters with a fault. */
    static Script full() {
        return x -> {
            x.table(0, 1);
            x.table(1, 1);
            atTime(x, 20000 - 87);
            for (int kind : new int[] {2, 1, 0, 0}) {
                x.table(kind, 1);
            }
            x.addRow(1, 3, 5, 60);
            for (int i = 0; i < 8; i++) {
                x.addRow(1 + i % 2, i, 1, 2);
                x.reset(1 + i % 2);
            }
            x.addRow(3, 500, 3, 6);
            x.merge(1, 3);
            x.addRow(4, 100, 1, 4);
            x.add(5, 999);
            x.clearText();
            Check.type(x, "z3;m1,3;z5;k0,000;m0,4;a1,1;z0;z1;z2;z3;z4;z5;z0;z1;z2;z3;z4;z5;z0;z1;z2;z3;z4;z");
        };
    }

    /** Table 0 takes rows until it is that time; it must be 0 yet. */
    static void atTime(Counted x, int time) {
        Check.retype(x, LONG_ROWS);
        int now = 0;
        while (now + 700 <= time) {
            x.play();
            now += 700;
        }
        while (now < time) {
            int many = Math.min(100, time - now);
            x.addRow(0, 0, 1, many);
            now += many;
        }
        x.clearText();
    }
}

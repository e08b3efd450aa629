import java.util.TreeMap;

/** The document's section "Terms", from "Hashes" to "Time": each sentence that names an edge has a test. */
public final class TermsTest {
    public static void main(String[] args) {
        everyHash();
        edgesOfEachBit();
        oneBitAfterAnother();
        allBitsLit();
        sevenAndEightHashes();
        ninthHash();
        greatestAndSmallestHashes();
        eachThingAsTheGreatestHash();
        everyRank();
        registersStayGreater();
        oneRegisterAfterAnother();
        allRegistersAboveZero();
        manySumsOfRegisters();
        additionsOfTheSame();
        highBoundAt1000();
        toldIsTheLowBound();
        toldIsTheHighBound();
        errorsAreSigned();
        withoutAdditions();
        emptyTablesSawNothing();
        theHashOfZero();
        Check.end("TermsTest");
    }

    private static Counted of(int kind, int seed) {
        Counted x = new Counted();
        x.table(kind, seed);
        return x;
    }

    /** The things from 0 to 999 by their hashes: no two of them have the same one. */
    private static TreeMap<Integer, Integer> byHash(int seed) {
        TreeMap<Integer, Integer> things = new TreeMap<>();
        for (int thing = 0; thing < 1000; thing++) {
            things.put(RoughModel.hashOf(thing, seed), thing);
        }
        return things;
    }

    /** "The hash of a thing with a seed (0 to 9) is made so: .. It is 0 to 65535." */
    private static void everyHash() {
        for (int seed = 0; seed < 10; seed++) {
            for (int half = 0; half < 2; half++) {
                Counted x = new Counted();
                for (int thing = 500 * half; thing < 500 * half + 500; thing++) {
                    Check.due("hash(" + thing + ", " + seed + ")", x.hash(thing, seed), RoughModel.hashOf(thing, seed));
                }
            }
        }
        Counted x = new Counted();
        Check.due("the least one", x.hash(453, 6), 0);
        Check.due("the greatest one of a thing", x.hash(717, 2), 65534);
    }

    /** "By a hash the bit h / 2048 is lit": by the least and the greatest hash that a thing has there. */
    private static void edgesOfEachBit() {
        for (int seed = 0; seed < 10; seed += 3) {
            TreeMap<Integer, Integer> things = byHash(seed);
            for (int bit = 0; bit < 32; bit++) {
                int[] edges = {things.ceilingEntry(2048 * bit).getValue(), things.lowerEntry(2048 * bit + 2048).getValue()};
                for (int thing : edges) {
                    Counted x = of(0, seed);
                    x.add(0, thing);
                    for (int i = 0; i < 32; i++) {
                        Check.due("bit " + i + " by thing " + thing, x.keptAt(0, i), i == bit ? 1 : 0);
                    }
                }
            }
        }
    }

    /** "If z bits are dark, the rough count is the sum of 32000 / k over all k from z + 1 to 32, divided by 1000." */
    private static void oneBitAfterAnother() {
        TreeMap<Integer, Integer> things = byHash(5);
        Counted x = of(0, 5);
        int sum = 0;
        for (int lit = 1; lit <= 32; lit++) {
            int bit = 11 * lit % 32;
            x.add(0, things.ceilingEntry(2048 * bit).getValue());
            sum += 32000 / (33 - lit);
            Check.due("low of " + lit + " bits", x.tableOf(0, 4), lit);
            Check.due("rough of " + lit + " bits", x.tableOf(0, 9), sum / 1000);
            Check.due("told of " + lit + " bits", x.tableOf(0, 2), lit);
            Check.due("high of " + lit + " bits", x.tableOf(0, 5), lit);
        }
        // 32000 / 32 to 32000 / 2, all rounded down, are 97863 together, and 32000 / 1 more is the last one.
        Check.due("rough of all bits", x.tableOf(0, 9), 129);
    }

    /** "If no bit is dark, it is that with z being 0": one bit more than 31 makes it 129, then it stays. */
    private static void allBitsLit() {
        for (int last = 0; last < 32; last += 31) {
            TreeMap<Integer, Integer> things = byHash(0);
            Counted x = of(0, 0);
            for (int bit = 0; bit < 32; bit++) {
                if (bit != last) {
                    x.addRow(0, things.ceilingEntry(2048 * bit).getValue(), 0, 4);
                }
            }
            int thing = things.ceilingEntry(2048 * last).getValue();
            Check.due("rough with one dark bit", x.tableOf(0, 9), 97);
            Check.due("told with one dark bit", x.tableOf(0, 2), 97);
            Check.due("the dark bit", x.keptAt(0, last), 0);
            Check.due("could not have seen it", x.has(0, thing, 1), 0);
            Check.due("would", x.would(0, thing), 125);
            Check.due("told with none", x.add(0, thing), 125);
            Check.due("rough with none", x.tableOf(0, 9), 129);
            Check.due("the bit is lit", x.keptAt(0, last), 1);
            for (int row = 0; row < 10; row++) {
                Check.due("told", x.addRow(0, 100 * row, 1, 100), 129);
            }
            Check.due("rough", x.tableOf(0, 9), 129);
            Check.due("low", x.tableOf(0, 4), 32);
            Check.due("nothing raises it", x.raises(0), Check.NOT_FOUND);
            Check.due("all could have been seen", x.has(0, 999, 1), 1);
        }
    }

    /** "If it keeps fewer than 8, the rough count is how many it keeps; otherwise 7 * 65536 / (the greatest + 1)." */
    private static void sevenAndEightHashes() {
        for (int seed = 0; seed < 10; seed++) {
            TreeMap<Integer, Integer> things = byHash(seed);
            Counted x = of(1, seed);
            int greatest = 0;
            for (int i = 0; i < 8; i++) {
                Check.due("not yet " + i, x.keptAt(0, i), Check.NOT_FOUND);
                greatest = things.ceilingKey(1000 * i + 300);
                x.add(0, things.get(greatest));
                int rough = i < 7 ? i + 1 : 7 * 65536 / (greatest + 1);
                Check.due("kept " + i, x.keptAt(0, i), greatest);
                Check.due("rough of " + (i + 1), x.tableOf(0, 9), rough);
                Check.due("low of " + (i + 1), x.tableOf(0, 4), i + 1);
                x.add(0, things.get(greatest));
                Check.due("the same again keeps no more", x.keptAt(0, i + 1), Check.NOT_FOUND);
                Check.due("the same again", x.tableOf(0, 9), rough);
            }
            Check.due("more than 8 of 8", x.tableOf(0, 9) > 8 ? 1 : 0, 1);
        }
    }

    /** "Kind 1 keeps the smallest unlike hashes, 8 at most." */
    private static void ninthHash() {
        TreeMap<Integer, Integer> things = byHash(3);
        Integer[] hashes = things.keySet().toArray(new Integer[0]);
        // The first nine but 40, in a mixed order; then next above, next below, between and least.
        int[] ranks = {90, 20, 70, 30, 80, 10, 60, 50};
        int[] then = {91, 89, 88, 40, 0, 79, 1};
        int[][] kept = {
            {10, 20, 30, 50, 60, 70, 80, 90}, {10, 20, 30, 50, 60, 70, 80, 89}, {10, 20, 30, 50, 60, 70, 80, 88},
            {10, 20, 30, 40, 50, 60, 70, 80}, {0, 10, 20, 30, 40, 50, 60, 70}, {0, 10, 20, 30, 40, 50, 60, 70},
            {0, 1, 10, 20, 30, 40, 50, 60}};
        Counted x = of(1, 3);
        for (int rank : ranks) {
            x.add(0, things.get(hashes[rank]));
        }
        for (int i = 0; i < then.length; i++) {
            int thing = things.get(hashes[then[i]]);
            boolean raises = kept[i][7] != (i == 0 ? 90 : kept[i - 1][7]);
            Check.due("could have seen rank " + then[i], x.has(0, thing, 1), raises ? 0 : 1);
            x.add(0, thing);
            for (int k = 0; k < 8; k++) {
                Check.due("with rank " + then[i] + ", kept " + k, x.keptAt(0, k), hashes[kept[i][k]]);
            }
            Check.due("no ninth", x.keptAt(0, 8), Check.NOT_FOUND);
            Check.due("rough", x.tableOf(0, 9), 458752 / (hashes[kept[i][7]] + 1));
            Check.due("could have seen it then", x.has(0, thing, 1), 1);
        }
    }

    private static void greatestAndSmallestHashes() {
        TreeMap<Integer, Integer> things = byHash(2);
        Integer[] hashes = things.keySet().toArray(new Integer[0]);
        Counted x = of(1, 2);
        for (int i = 0; i < 8; i++) {
            x.add(0, things.get(hashes[999 - i]));
        }
        Check.due("the greatest one", x.keptAt(0, 7), 65534);
        Check.due("rough of the greatest ones", x.tableOf(0, 9), 7);
        Check.due("told of the greatest ones", x.tableOf(0, 2), 8);
        for (int i = 0; i < 8; i++) {
            x.add(0, things.get(hashes[i]));
        }
        Check.due("the least one", x.keptAt(0, 0), 5);
        Check.due("rough of the least ones", x.tableOf(0, 9), 458752 / (hashes[7] + 1));
        Check.due("far above 16", x.tableOf(0, 9) > 800 ? 1 : 0, 1);
        Check.due("told of the least ones", x.tableOf(0, 2), 16);
        Check.due("nothing raises it", x.raises(0), Check.NOT_FOUND);
    }

    /** With the seven smallest hashes of all, each thing of a smaller hash takes the place of the greatest one kept. */
    private static void eachThingAsTheGreatestHash() {
        for (int seed = 0; seed < 10; seed++) {
            TreeMap<Integer, Integer> things = byHash(seed);
            Integer[] hashes = things.keySet().toArray(new Integer[0]);
            for (int from = 999; from > 7; from -= 240) {
                Counted x = of(1, seed);
                for (int i = 0; i < 7; i++) {
                    x.add(0, things.get(hashes[i]));
                }
                for (int i = from; i >= 7 && i > from - 240; i--) {
                    x.add(0, things.get(hashes[i]));
                    Check.due("rough with " + hashes[i], x.tableOf(0, 9), 458752 / (hashes[i] + 1));
                }
            }
        }
    }

    /** "The rank of a number is 1 plus how often it can be divided by 2 without a rest, but 14 for 0." */
    private static void everyRank() {
        int[] found = new int[15];
        for (int seed = 0; seed < 10; seed++) {
            for (int from = 0; from < 1000; from += 100) {
                Counted x = of(2, seed);
                for (int thing = from; thing < from + 100; thing++) {
                    int h = RoughModel.hashOf(thing, seed);
                    int rank = h < 8 ? 14 : 1 + Integer.numberOfTrailingZeros(h >> 3);
                    x.add(0, thing);
                    Check.due("rank of " + thing + " with " + seed, x.keptAt(0, h & 7), rank);
                    x.reset(0);
                    Check.due("no rank is left", x.keptAt(0, h & 7), 0);
                    found[rank]++;
                }
            }
        }
        for (int rank = 1; rank <= 14; rank++) {
            Check.due("things of rank " + rank, found[rank] > 0 ? 1 : 0, rank == 13 ? 0 : 1);
        }
    }

    /** "By a hash the register h mod 8 becomes the rank of h / 8, if it is less." */
    private static void registersStayGreater() {
        for (int register = 0; register < 8; register++) {
            int[] things = {-1, -1, -1, -1, -1, -1, -1};
            for (int thing = 0; thing < 1000; thing++) {
                int h = RoughModel.hashOf(thing, 1);
                int rank = Integer.numberOfTrailingZeros(h / 8) + 1;
                if (h % 8 == register && rank < 7) {
                    things[rank] = thing;
                }
            }
            Counted x = of(2, 1);
            int greatest = 0;
            for (int rank : new int[] {2, 1, 2, 3, 1, 5, 4, 5, 6, 3}) {
                if (things[rank] < 0) {
                    continue;
                }
                Check.due("would keep the same", x.has(0, things[rank], 1), rank <= greatest ? 1 : 0);
                x.add(0, things[rank]);
                greatest = Math.max(greatest, rank);
                for (int i = 0; i < 8; i++) {
                    Check.due("register " + i, x.keptAt(0, i), i == register ? greatest : 0);
                }
            }
            Check.due("rough of one register", x.tableOf(0, 9), 1);
        }
    }

    /** The first thing with that register and a rank of so many or more. */
    private static int thingWith(int seed, int register, int rank) {
        for (int thing = 0; thing < 1000; thing++) {
            int h = RoughModel.hashOf(thing, seed);
            if (h % 8 == register && (h < 8 ? 14 : 1 + Integer.numberOfTrailingZeros(h / 8)) >= rank) {
                return thing;
            }
        }
        return -1;
    }

    /** "If v registers are 0, and v is above 0, the rough count is the sum of 8000 / k over all k from v + 1 to 8." */
    private static void oneRegisterAfterAnother() {
        int[] due = {0, 1, 2, 3, 5, 7, 9, 13};
        for (int rank = 1; rank <= 6; rank++) {
            Counted x = of(2, 0);
            for (int filled = 0; filled < 8; filled++) {
                Check.due("rough of " + filled + " registers", x.tableOf(0, 9), due[filled]);
                Check.due("low of " + filled + " registers", x.tableOf(0, 4), filled);
                x.add(0, thingWith(0, 3 * filled % 8, rank));
            }
            Check.due("low of 8 registers", x.tableOf(0, 4), 8);
        }
    }

    /** "Otherwise it is 40 * 16384 / s", s being the sum of 2 to the power of (14 - register). */
    private static void allRegistersAboveZero() {
        for (int seed = 0; seed < 10; seed++) {
            for (int rank = 1; rank <= 6; rank++) {
                Counted x = of(2, seed);
                for (int register = 7; register >= 0; register--) {
                    x.addRow(0, thingWith(seed, register, rank), 0, 100);
                }
                int sum = 0;
                for (int register = 0; register < 8; register++) {
                    sum += (int) Math.pow(2, 14 - x.keptAt(0, register));
                }
                Check.due("rough of 8 registers", x.tableOf(0, 9), 655360 / sum);
                Check.due("told", x.tableOf(0, 2), Math.min(800, 655360 / sum));
            }
        }
        // Registers of 1 all: s is 65536, and the rough count is 10.
        Counted x = of(2, 0);
        for (int register = 0; register < 8; register++) {
            int thing = 0;
            while (RoughModel.hashOf(thing, 0) % 16 != register + 8) {
                thing++;
            }
            x.add(0, thing);
        }
        Check.due("rough of registers of 1", x.tableOf(0, 9), 10);
        Check.due("told", x.tableOf(0, 2), 8);
        Check.due("told with two additions more", x.addRow(0, x.sawAt(0, 0, 0), 0, 2), 10);
        // A register of 14 adds 1 to s, the seven others of 1 add 8192 each.
        Counted y = of(2, 6);
        y.add(0, 453);
        for (int register = 1; register < 8; register++) {
            int thing = 0;
            while (RoughModel.hashOf(thing, 6) % 16 != register + 8) {
                thing++;
            }
            y.addRow(0, thing, 0, 9);
        }
        Check.due("the register of 14", y.keptAt(0, 0), 14);
        Check.due("rough with it", y.tableOf(0, 9), 655360 / 57345);
    }

    /** Things in many orders, so that the registers' sum is another one each time. */
    private static void manySumsOfRegisters() {
        for (int seed = 0; seed < 10; seed++) {
            for (int step = 1; step < 400; step += 18) {
                Counted x = of(2, seed);
                int[] registers = new int[8];
                for (int i = 0; i < 250; i++) {
                    int thing = (997 * seed + step * i) % 1000;
                    int h = RoughModel.hashOf(thing, seed);
                    int rank = h < 8 ? 14 : 1 + Integer.numberOfTrailingZeros(h / 8);
                    registers[h % 8] = Math.max(registers[h % 8], rank);
                    int sum = 0;
                    boolean full = true;
                    for (int register : registers) {
                        full = full && register > 0;
                        sum += 1 << 14 - register;
                    }
                    x.add(0, thing);
                    if (full) {
                        Check.due("rough of the sum " + sum, x.tableOf(0, 9), 655360 / sum);
                    }
                }
            }
        }
    }

    /** "The number of its additions becomes greater by 1, also if the table saw the thing already." */
    private static void additionsOfTheSame() {
        for (int kind = 0; kind < 3; kind++) {
            Counted x = of(kind, 7);
            for (int i = 1; i <= 40; i++) {
                Check.due("told", x.add(0, 333), 1);
                Check.due("additions", x.tableOf(0, 7), i);
                Check.due("high", x.tableOf(0, 5), i);
            }
            Check.due("exact", x.tableOf(0, 3), 1);
            Check.due("low", x.tableOf(0, 4), 1);
            Check.due("its time is the first one", x.sawAt(0, 0, 1), 0);
        }
    }

    /** "The high one is the lesser one of the additions and 1000." */
    private static void highBoundAt1000() {
        for (int kind = 0; kind < 3; kind++) {
            Counted x = of(kind, 8);
            for (int row = 0; row < 9; row++) {
                x.addRow(0, 0, 1, 100);
            }
            x.addRow(0, 0, 1, 99);
            int[] due = {999, 1000, 1000, 1000};
            for (int i = 0; i < 4; i++) {
                Check.due("additions", x.tableOf(0, 7), 999 + i);
                Check.due("high of " + (999 + i), x.tableOf(0, 5), due[i]);
                x.add(0, 5);
            }
        }
    }

    /** ".. but the low bound if it is less." */
    private static void toldIsTheLowBound() {
        Counted x = of(1, 0);
        x.addRow(0, 0, 1, 8);
        Check.due("rough", x.tableOf(0, 9), 7);
        Check.due("low", x.tableOf(0, 4), 8);
        Check.due("told", x.tableOf(0, 2), 8);
        Check.due("error", x.tableOf(0, 6), 1000);
        Check.due("would", x.would(0, 0), 8);
        Check.due("both with itself", x.both(0, 0, 0), 8);
    }

    /** ".. and the high bound if it is greater": 1000 is told at most, however great the rough count is. */
    private static void toldIsTheHighBound() {
        int above = 0;
        for (int seed = 0; seed < 10; seed++) {
            Integer[] hashes = byHash(seed).keySet().toArray(new Integer[0]);
            Counted x = of(1, seed);
            for (int i = 0; i < 8; i++) {
                x.add(0, byHash(seed).get(hashes[i]));
            }
            int rough = 458752 / (hashes[7] + 1);
            above += rough > 1000 ? 1 : 0;
            Check.due("rough", x.tableOf(0, 9), rough);
            Check.due("told with 8 additions", x.tableOf(0, 2), 8);
            int same = x.sawAt(0, 0, 0);
            for (int additions = 108; additions <= 1208; additions += 100) {
                int told = Math.min(rough, Math.min(additions, 1000));
                int one = Math.min(rough, Math.min(additions - 99, 1000));
                Check.due("would tell with one more", x.would(0, same), one);
                Check.due("told with " + additions, x.addRow(0, same, 0, 100), told);
                Check.due("error with " + additions, x.tableOf(0, 6), 1000 + told - 8);
                Check.due("rough with " + additions, x.tableOf(0, 9), rough);
            }
        }
        Check.due("rough counts above 1000 among them", above, 6);
    }

    /** "The error of a table is what is told less the exact count." */
    private static void errorsAreSigned() {
        Counted x = of(0, 0);
        for (int row = 0; row < 10; row++) {
            x.addRow(0, 100 * row, 1, 100);
        }
        Check.due("far below", x.tableOf(0, 6), 1000 + 129 - 1000);
        Check.due("its bits", x.errorBits(0), Float.floatToIntBits(-871f / 1000f));
        Check.due("no error of 0", x.count(5), 0);
        x.table(2, 2);
        x.add(1, 227);
        Check.due("none", x.tableOf(1, 6), 1000);
        Check.due("one error of 0", x.count(5), 1);
        x.table(1, 0);
        x.addRow(2, 0, 1, 9);
        x.addRow(2, 19, 0, 20);
        Check.due("above", x.tableOf(2, 6) - 1000, x.tableOf(2, 2) - 10);
    }

    /** A table without additions tells 0 by each kind and seed. */
    private static void withoutAdditions() {
        for (int kind = 0; kind < 3; kind++) {
            for (int seed = 0; seed < 10; seed++) {
                Counted x = of(kind, seed);
                int[] due = {kind, seed, 0, 0, 0, 0, 1000, 0, 0, 0};
                for (int what = 0; what < 10; what++) {
                    Check.due("tableOf(0, " + what + ") of kind " + kind, x.tableOf(0, what), due[what]);
                }
                Check.due("error of 0", x.count(5), 1);
                Check.due("no relation", x.errorBits(0), Check.NOT_FOUND);
                Check.due("first by error", x.byError(0), 0);
                Check.due("raised by the lowest thing", x.raises(0), 0);
                Check.due("would", x.would(0, 999), 1);
                Check.due("saw nothing", x.sawAt(0, 0, 0), Check.NOT_FOUND);
                Check.due("with itself", x.both(0, 0, 0), 0);
                Check.due("less", x.both(0, 0, 2), 0);
            }
        }
    }

    /** An empty table would keep each thing, that with the hash 0 too: it could have seen none. */
    private static void emptyTablesSawNothing() {
        for (int kind = 0; kind < 3; kind++) {
            for (int seed = 0; seed < 10; seed++) {
                for (int from = 0; from < 1000; from += 250) {
                    Counted x = of(kind, seed);
                    for (int thing = from; thing < from + 250; thing++) {
                        Check.due("could have seen " + thing + " of seed " + seed, x.has(0, thing, 1), 0);
                    }
                }
            }
        }
    }

    /** Thing 453 has the hash 0 with the seed 6: with 0 to 9 other hashes ahead of it, and again after a reset. */
    private static void theHashOfZero() {
        for (int others = 0; others < 10; others++) {
            Counted x = of(1, 6);
            for (int turn = 0; turn < 2; turn++) {
                for (int thing = 0; thing < others; thing++) {
                    x.add(0, thing);
                }
                Check.due("is not kept beside " + others, x.has(0, 453, 1), 0);
                x.add(0, 453);
                Check.due("is kept beside " + others, x.has(0, 453, 1), 1);
                Check.due("is the smallest one", x.keptAt(0, 0), 0);
                Check.due("low", x.tableOf(0, 4), Math.min(8, others + 1));
                x.reset(0);
                Check.due("is not kept after the reset", x.has(0, 453, 1), 0);
                Check.due("no hash is kept", x.keptAt(0, 0), Check.NOT_FOUND);
            }
        }
    }
}

import java.util.Arrays;

/** Tables that count roughly how many unlike things they saw, each beside one that knows. */
public final class RoughTables {
    public static final int INVALID_ARGUMENT = -1;
    public static final int NOT_POSSIBLE = -2;
    public static final int LIMIT_REACHED = -3;
    public static final int NOT_FOUND = -4;

    private static final int TABLES = 6;
    private static final int THINGS = 1000;
    private static final int LAST_KIND = 2;
    private static final int LAST_SEED = 9;
    private static final int LONGEST_ROW = 100;
    private static final int LAST_TIME = 20000;
    private static final int MOST_ADDITIONS = 1000000000;
    private static final int BITS = 32;
    private static final int HASHES = 8;
    private static final int REGISTERS = 8;
    private static final int HIGHEST_RANK = 14;
    private static final int LOG = 8;
    private static final int HISTORY = 4;
    private static final int TEXT = 80;

    private static final int KIND_BITS = 0;
    private static final int KIND_HASHES = 1;

    private static final int FORM = 1;
    private static final int REFUSED = 2;

    private static final int NEVER = -1;

    // All that the calls need is made once and used again, so that no call makes an object.
    private final State now;
    private final History history;
    private final Text text;
    private final Command order;
    private final Trial trial;
    private final Sketch scratch;

    public RoughTables() {
        now = new State();
        history = new History();
        text = new Text();
        order = new Command();
        trial = new Trial();
        scratch = new Sketch();
    }

    // ---- tables

    public int table(int kind, int seed) {
        order.put('k', kind, seed);
        return change();
    }

    public int add(int table, int thing) {
        order.put('a', table, thing);
        return change();
    }

    public int addRow(int table, int thing, int step, int many) {
        order.put('s', table, thing);
        order.putMore(step, many);
        return change();
    }

    public int merge(int into, int from) {
        order.put('m', into, from);
        return change();
    }

    public int reset(int table) {
        order.put('z', table, 0);
        return change();
    }

    private int change() {
        int refusal = now.refusalOf(order);
        if (refusal < 0) {
            return refusal;
        }
        history.record(now);
        return now.carryOut(order);
    }

    // ---- what there is

    public int tableOf(int table, int what) {
        Table found = now.find(table);
        if (found == null || !within(what, 9)) {
            return INVALID_ARGUMENT;
        }
        return found.property(what);
    }

    public int keptAt(int table, int index) {
        Table found = now.find(table);
        return found == null ? INVALID_ARGUMENT : found.sketch.partAt(index);
    }

    public int sawAt(int table, int index, int what) {
        Table found = now.find(table);
        if (found == null || index < 0 || !within(what, 1)) {
            return INVALID_ARGUMENT;
        }
        int thing = found.thingAt(index);
        if (thing == NEVER) {
            return NOT_FOUND;
        }
        return what == 0 ? thing : found.timeOf(thing);
    }

    public int hash(int thing, int seed) {
        if (!isThing(thing) || !within(seed, LAST_SEED)) {
            return INVALID_ARGUMENT;
        }
        return hashOf(thing, seed);
    }

    public int has(int table, int thing, int what) {
        Table found = now.find(table);
        if (found == null || !isThing(thing) || !within(what, 1)) {
            return INVALID_ARGUMENT;
        }
        boolean seen = what == 0 ? found.saw(thing) : found.sketch.staysWith(thing);
        return seen ? 1 : 0;
    }

    public int logAt(int index, int what) {
        if (index < 0 || !within(what, 2)) {
            return INVALID_ARGUMENT;
        }
        return now.log.entry(index, what);
    }

    public int count(int what) {
        switch (what) {
            case 0: return now.made;
            case 1: return now.time;
            case 2: return now.thingsOfAny();
            case 3: return now.thingsOfAll();
            case 4: return now.log.size;
            case 5: return now.tablesWithoutError();
            case 6: return history.size;
            case 7: return text.length;
            default: return INVALID_ARGUMENT;
        }
    }

    // ---- errors, what would be

    public int errorBits(int table) {
        Table found = now.find(table);
        if (found == null) {
            return INVALID_ARGUMENT;
        }
        return found.exact == 0 ? NOT_FOUND : bitsOfQuotient(found.error(), found.exact);
    }

    public int byError(int place) {
        if (place < 0) {
            return INVALID_ARGUMENT;
        }
        for (int i = 0; i < now.made; i++) {
            if (now.placeByError(i) == place) {
                return i;
            }
        }
        return NOT_FOUND;
    }

    public int would(int table, int thing) {
        Table found = now.find(table);
        if (found == null || !isThing(thing)) {
            return INVALID_ARGUMENT;
        }
        scratch.copyFrom(found.sketch);
        scratch.take(thing);
        return scratch.told();
    }

    public int raises(int table) {
        Table found = now.find(table);
        return found == null ? INVALID_ARGUMENT : found.sketch.lowestRaising();
    }

    public int both(int one, int other, int what) {
        Table first = now.find(one);
        Table second = now.find(other);
        if (first == null || second == null || !within(what, 3)) {
            return INVALID_ARGUMENT;
        }
        if (what == 1) {
            return first.sawEither(second);
        }
        if (what == 3) {
            return first.sawToo(second);
        }
        if (!first.sketch.isLike(second.sketch)) {
            return NOT_POSSIBLE;
        }
        scratch.copyFrom(first.sketch);
        scratch.unite(second.sketch);
        int together = scratch.told();
        if (what == 0) {
            return together;
        }
        return Math.max(0, first.sketch.told() + second.sketch.told() - together);
    }

    public int undo() {
        if (history.size == 0) {
            return NOT_POSSIBLE;
        }
        history.restore(now);
        return history.size;
    }

    // ---- texts

    public int type(int character) {
        if (character < 32 || character > 126) {
            return INVALID_ARGUMENT;
        }
        return text.append((char) character) ? text.length : LIMIT_REACHED;
    }

    public int clearText() {
        return text.empty();
    }

    public int fault(int what) {
        if (!within(what, 2)) {
            return INVALID_ARGUMENT;
        }
        trial.run(text, now);
        if (trial.reason == 0 || (what == 2 && trial.reason == FORM)) {
            return NOT_FOUND;
        }
        if (what == 0) {
            return trial.at;
        }
        return what == 1 ? trial.reason : trial.cause;
    }

    public int play() {
        trial.run(text, now);
        if (trial.reason != 0) {
            return NOT_POSSIBLE;
        }
        history.record(now);
        now.copyFrom(trial.state);
        return trial.done;
    }

    // ---- numbers

    private static boolean within(int number, int last) {
        return number >= 0 && number <= last;
    }

    private static boolean isThing(int thing) {
        return thing >= 0 && thing < THINGS;
    }

    private static int hashOf(int thing, int seed) {
        int h = (thing * 40503 + seed * 9973 + 7919) % 65536;
        h = (h ^ (h / 128)) * 25173 % 65536;
        return h ^ (h / 256);
    }

    /** The rank of a hash's upper part; the bound on the rank also ends it for 0. */
    private static int rankOf(int upper) {
        int rank = 1;
        int rest = upper;
        while (rank < HIGHEST_RANK && rest % 2 == 0) {
            rest /= 2;
            rank++;
        }
        return rank;
    }

    /** The sum of size * 1000 / k over all k above those free, to the size, divided by 1000. */
    private static int spread(int size, int free) {
        int sum = 0;
        for (int k = 1; k <= size; k++) {
            if (k > free) {
                sum += size * 1000 / k;
            }
        }
        return sum / 1000;
    }

    /**
     * The bits of the float next to above / below, made by hand, as the language has no call for them.
     * No quotient of numbers up to 1000 lies midway between two floats, so half a bit is rounded up.
     */
    private static int bitsOfQuotient(int above, int below) {
        if (above == 0 || below <= 0) {
            return 0;
        }
        long size = Math.abs(above);
        long least = (long) below << 23;
        int shift = 0;
        while (shift < 40 && (size << shift) < least) {
            shift++;
        }
        int digits = (int) (((size << (shift + 1)) / below + 1) / 2);
        // Added, not joined: digits rounded up to 2 to the 24 raise the exponent by this.
        int bits = ((150 - shift) << 23) + (digits - (1 << 23));
        return above < 0 ? bits | 1 << 31 : bits;
    }

    /** What a table keeps roughly, and its additions. */
    private static final class Sketch {
        int kind;
        int seed;
        int additions;
        int lit;
        int kept;
        final int[] hashes = new int[HASHES];
        final int[] registers = new int[REGISTERS];

        void begin(int newKind, int newSeed) {
            kind = newKind;
            seed = newSeed;
            additions = 0;
            lit = 0;
            kept = 0;
            Arrays.fill(hashes, 0);
            Arrays.fill(registers, 0);
        }

        void copyFrom(Sketch other) {
            kind = other.kind;
            seed = other.seed;
            additions = other.additions;
            lit = other.lit;
            kept = other.kept;
            System.arraycopy(other.hashes, 0, hashes, 0, HASHES);
            System.arraycopy(other.registers, 0, registers, 0, REGISTERS);
        }

        boolean isLike(Sketch other) {
            return kind == other.kind && seed == other.seed;
        }

        void take(int thing) {
            int h = hashOf(thing, seed);
            additions = Math.min(additions + 1, MOST_ADDITIONS);
            if (kind == KIND_BITS) {
                lit |= bitOf(h);
            } else if (kind == KIND_HASHES) {
                keepHash(h);
            } else {
                raise(registerOf(h), rankOf(h / 8));
            }
        }

        void unite(Sketch other) {
            additions = Math.min(additions + other.additions, MOST_ADDITIONS);
            lit |= other.lit;
            for (int i = 0; i < other.kept && i < HASHES; i++) {
                keepHash(other.hashes[i]);
            }
            for (int i = 0; i < REGISTERS; i++) {
                raise(i, other.registers[i]);
            }
        }

        boolean staysWith(int thing) {
            int h = hashOf(thing, seed);
            if (kind == KIND_BITS) {
                return (lit & bitOf(h)) != 0;
            }
            if (kind == KIND_HASHES) {
                int place = placeOf(h);
                return place >= HASHES || (place < kept && hashes[place] == h);
            }
            return registers[registerOf(h)] >= rankOf(h / 8);
        }

        int lowestRaising() {
            for (int thing = 0; thing < THINGS; thing++) {
                if (!staysWith(thing)) {
                    return thing;
                }
            }
            return NOT_FOUND;
        }

        private int bitOf(int h) {
            return 1 << (h / 2048 & 31);
        }

        private int registerOf(int h) {
            return h & 7;
        }

        private void raise(int register, int rank) {
            if (register >= 0 && register < REGISTERS) {
                registers[register] = Math.max(registers[register], rank);
            }
        }

        /** How many kept hashes are less. */
        private int placeOf(int h) {
            int place = 0;
            while (place < kept && place < HASHES && hashes[place] < h) {
                place++;
            }
            return place;
        }

        private void keepHash(int h) {
            int place = placeOf(h);
            if (place >= HASHES || (place < kept && hashes[place] == h)) {
                return;
            }
            for (int i = HASHES - 1; i > place; i--) {
                hashes[i] = hashes[i - 1];
            }
            hashes[place] = h;
            kept = Math.min(kept + 1, HASHES);
        }

        private int filledRegisters() {
            int filled = 0;
            for (int register : registers) {
                if (register > 0) {
                    filled++;
                }
            }
            return filled;
        }

        int low() {
            if (kind == KIND_BITS) {
                return Integer.bitCount(lit);
            }
            return kind == KIND_HASHES ? kept : filledRegisters();
        }

        int high() {
            return Math.min(additions, THINGS);
        }

        int rough() {
            if (kind == KIND_BITS) {
                return spread(BITS, BITS - Integer.bitCount(lit));
            }
            if (kind == KIND_HASHES) {
                return roughByHashes();
            }
            int free = REGISTERS - filledRegisters();
            return free > 0 ? spread(REGISTERS, free) : roughByRanks();
        }

        private int roughByHashes() {
            int divisor = hashes[HASHES - 1] + 1;
            return kept < HASHES || divisor <= 0 ? kept : 7 * 65536 / divisor;
        }

        private int roughByRanks() {
            int sum = 0;
            for (int register : registers) {
                sum += 1 << (HIGHEST_RANK - register);
            }
            return sum > 0 ? 40 * 16384 / sum : 0;
        }

        int told() {
            return Math.max(low(), Math.min(rough(), high()));
        }

        int partAt(int index) {
            if (index < 0) {
                return INVALID_ARGUMENT;
            }
            if (kind == KIND_BITS) {
                return index < BITS ? lit >>> index & 1 : INVALID_ARGUMENT;
            }
            if (kind == KIND_HASHES) {
                return index < kept && index < HASHES ? hashes[index] : NOT_FOUND;
            }
            return index < REGISTERS ? registers[index] : INVALID_ARGUMENT;
        }
    }

    /** A sketch and beside it what the table saw exactly. */
    private static final class Table {
        final Sketch sketch = new Sketch();
        final int[] times = new int[THINGS];
        int exact;
        int resets;

        void begin(int kind, int seed) {
            sketch.begin(kind, seed);
            Arrays.fill(times, NEVER);
            exact = 0;
            resets = 0;
        }

        void beginAgain() {
            int before = resets;
            begin(sketch.kind, sketch.seed);
            resets = before + 1;
        }

        void copyFrom(Table other) {
            sketch.copyFrom(other.sketch);
            System.arraycopy(other.times, 0, times, 0, THINGS);
            exact = other.exact;
            resets = other.resets;
        }

        boolean saw(int thing) {
            return timeOf(thing) != NEVER;
        }

        int timeOf(int thing) {
            return isThing(thing) ? times[thing] : NEVER;
        }

        void knowAllOf(Table other) {
            for (int thing = 0; thing < THINGS; thing++) {
                if (other.times[thing] != NEVER) {
                    know(thing, other.times[thing]);
                }
            }
        }

        /** The earlier one of two times stays known. */
        void know(int thing, int time) {
            if (!isThing(thing)) {
                return;
            }
            if (times[thing] == NEVER) {
                times[thing] = time;
                exact++;
            } else {
                times[thing] = Math.min(times[thing], time);
            }
        }

        int thingAt(int index) {
            int ahead = 0;
            for (int thing = 0; thing < THINGS; thing++) {
                if (times[thing] != NEVER) {
                    if (ahead == index) {
                        return thing;
                    }
                    ahead++;
                }
            }
            return NEVER;
        }

        int sawToo(Table other) {
            int many = 0;
            for (int thing = 0; thing < THINGS; thing++) {
                if (times[thing] != NEVER && other.times[thing] != NEVER) {
                    many++;
                }
            }
            return many;
        }

        int sawEither(Table other) {
            return exact + other.exact - sawToo(other);
        }

        int error() {
            return sketch.told() - exact;
        }

        int property(int what) {
            switch (what) {
                case 0: return sketch.kind;
                case 1: return sketch.seed;
                case 2: return sketch.told();
                case 3: return exact;
                case 4: return sketch.low();
                case 5: return sketch.high();
                case 6: return error() + 1000;
                case 7: return sketch.additions;
                case 8: return resets;
                default: return sketch.rough();
            }
        }
    }

    /** The latest resets, the latest one first. */
    private static final class Log {
        int size;
        final int[] numbers = new int[LOG];
        final int[] told = new int[LOG];
        final int[] exact = new int[LOG];

        void write(int number, int toldCount, int exactCount) {
            for (int i = LOG - 1; i > 0; i--) {
                numbers[i] = numbers[i - 1];
                told[i] = told[i - 1];
                exact[i] = exact[i - 1];
            }
            numbers[0] = number;
            told[0] = toldCount;
            exact[0] = exactCount;
            size = Math.min(size + 1, LOG);
        }

        int entry(int index, int what) {
            if (index < 0 || index >= size || index >= LOG) {
                return NOT_FOUND;
            }
            if (what == 0) {
                return numbers[index];
            }
            return what == 1 ? told[index] : exact[index];
        }

        void copyFrom(Log other) {
            size = other.size;
            System.arraycopy(other.numbers, 0, numbers, 0, LOG);
            System.arraycopy(other.told, 0, told, 0, LOG);
            System.arraycopy(other.exact, 0, exact, 0, LOG);
        }
    }

    /** Everything but the text and the history. */
    private static final class State {
        final Table[] tables = new Table[TABLES];
        final Log log = new Log();
        int made;
        int time;

        State() {
            for (int i = 0; i < TABLES; i++) {
                tables[i] = new Table();
            }
        }

        Table find(int number) {
            return number >= 0 && number < made && number < TABLES ? tables[number] : null;
        }

        /** What lies beyond the tables made is begun anew with its table, so it needs no copy. */
        void copyFrom(State other) {
            made = other.made;
            time = other.time;
            log.copyFrom(other.log);
            for (int i = 0; i < TABLES; i++) {
                Table source = other.find(i);
                Table copy = find(i);
                if (source != null && copy != null) {
                    copy.copyFrom(source);
                }
            }
        }

        /** The error code of the command, 0 if it has none. */
        int refusalOf(Command command) {
            int first = command.numberAt(0);
            int second = command.numberAt(1);
            switch (command.letter) {
                case 'k': return refusalOfTable(first, second);
                case 'a': return refusalOfRow(first, second, 0, 1);
                case 's': return refusalOfRow(first, second, command.numberAt(2), command.numberAt(3));
                case 'm': return refusalOfMerge(first, second);
                default: return find(first) == null ? INVALID_ARGUMENT : 0;
            }
        }

        private int refusalOfTable(int kind, int seed) {
            if (!within(kind, LAST_KIND) || !within(seed, LAST_SEED)) {
                return INVALID_ARGUMENT;
            }
            return made >= TABLES ? LIMIT_REACHED : 0;
        }

        private int refusalOfRow(int table, int thing, int step, int many) {
            if (find(table) == null || !isThing(thing) || !isThing(step)) {
                return INVALID_ARGUMENT;
            }
            if (many < 1 || many > LONGEST_ROW) {
                return INVALID_ARGUMENT;
            }
            return time + many > LAST_TIME ? LIMIT_REACHED : 0;
        }

        private int refusalOfMerge(int into, int from) {
            Table target = find(into);
            Table source = find(from);
            if (target == null || source == null || into == from) {
                return INVALID_ARGUMENT;
            }
            return target.sketch.isLike(source.sketch) ? 0 : NOT_POSSIBLE;
        }

        /** Does a command that is not refused. */
        int carryOut(Command command) {
            int first = command.numberAt(0);
            int second = command.numberAt(1);
            switch (command.letter) {
                case 'k': return makeTable(first, second);
                case 'a': return putRow(first, second, 0, 1);
                case 's': return putRow(first, second, command.numberAt(2), command.numberAt(3));
                case 'm': return unite(first, second);
                default: return empty(first);
            }
        }

        private int makeTable(int kind, int seed) {
            made = Math.min(made + 1, TABLES);
            Table latest = find(made - 1);
            if (latest != null) {
                latest.begin(kind, seed);
            }
            return made - 1;
        }

        private int putRow(int table, int thing, int step, int many) {
            Table target = find(table);
            if (target == null) {
                return INVALID_ARGUMENT;
            }
            int next = thing;
            for (int i = 0; i < many; i++) {
                target.sketch.take(next);
                target.know(next, time);
                time++;
                next = (next + step) % THINGS;
            }
            return target.sketch.told();
        }

        private int unite(int into, int from) {
            Table target = find(into);
            Table source = find(from);
            if (target == null || source == null) {
                return INVALID_ARGUMENT;
            }
            target.sketch.unite(source.sketch);
            target.knowAllOf(source);
            return target.sketch.told();
        }

        private int empty(int table) {
            Table target = find(table);
            if (target == null) {
                return INVALID_ARGUMENT;
            }
            int exact = target.exact;
            log.write(table, target.sketch.told(), exact);
            target.beginAgain();
            return exact;
        }

        private int tablesWithThing(int thing) {
            int many = 0;
            for (int i = 0; i < TABLES; i++) {
                Table table = find(i);
                if (table != null && table.saw(thing)) {
                    many++;
                }
            }
            return many;
        }

        int thingsOfAny() {
            int many = 0;
            for (int thing = 0; thing < THINGS; thing++) {
                if (tablesWithThing(thing) > 0) {
                    many++;
                }
            }
            return many;
        }

        int thingsOfAll() {
            int many = 0;
            for (int thing = 0; thing < THINGS; thing++) {
                if (made > 0 && tablesWithThing(thing) == made) {
                    many++;
                }
            }
            return many;
        }

        int tablesWithoutError() {
            int many = 0;
            for (int i = 0; i < TABLES; i++) {
                Table table = find(i);
                if (table != null && table.error() == 0) {
                    many++;
                }
            }
            return many;
        }

        /** How many tables are ahead of this one in the order by their errors. */
        int placeByError(int number) {
            int size = errorSize(number);
            int ahead = 0;
            for (int i = 0; i < made; i++) {
                int other = errorSize(i);
                if (other > size || (other == size && i < number)) {
                    ahead++;
                }
            }
            return ahead;
        }

        private int errorSize(int number) {
            Table table = find(number);
            return table == null ? 0 : Math.abs(table.error());
        }
    }

    /** The states before the latest changes, the oldest one first. */
    private static final class History {
        final State[] slots = new State[HISTORY];
        int size;

        History() {
            for (int i = 0; i < HISTORY; i++) {
                slots[i] = new State();
            }
        }

        void record(State state) {
            if (size >= HISTORY) {
                dropOldest();
            }
            State slot = slotAt(size);
            if (slot != null) {
                slot.copyFrom(state);
                size++;
            }
        }

        /** Turns the latest state recorded into the given one; there must be one. */
        void restore(State state) {
            State slot = slotAt(size - 1);
            if (slot != null) {
                state.copyFrom(slot);
                size--;
            }
        }

        private State slotAt(int index) {
            return index >= 0 && index < HISTORY ? slots[index] : null;
        }

        private void dropOldest() {
            State oldest = slots[0];
            for (int i = 1; i < HISTORY; i++) {
                slots[i - 1] = slots[i];
            }
            slots[HISTORY - 1] = oldest;
            size--;
        }
    }

    /** The characters typed. */
    private static final class Text {
        final char[] signs = new char[TEXT];
        int length;

        boolean append(char sign) {
            if (length < 0 || length >= TEXT) {
                return false;
            }
            signs[length] = sign;
            length++;
            return true;
        }

        int empty() {
            int before = length;
            length = 0;
            return before;
        }

        /** The character there, or one that no command holds. */
        char signAt(int index) {
            return index >= 0 && index < length && index < TEXT ? signs[index] : 0;
        }

        /** How many digits stand there, but 3 at most. */
        int digitsAt(int index) {
            int many = 0;
            while (many < 3 && signAt(index + many) >= '0' && signAt(index + many) <= '9') {
                many++;
            }
            return many;
        }

        int numberAt(int index, int digits) {
            int number = 0;
            for (int i = 0; i < digits; i++) {
                number = number * 10 + (signAt(index + i) - '0');
            }
            return number;
        }
    }

    /** A letter and its numbers, given by a call or read from the text. */
    private static final class Command {
        final int[] numbers = new int[4];
        char letter;
        int end;

        void put(char newLetter, int first, int second) {
            letter = newLetter;
            numbers[0] = first;
            numbers[1] = second;
        }

        void putMore(int third, int fourth) {
            numbers[2] = third;
            numbers[3] = fourth;
        }

        int numberAt(int index) {
            return index >= 0 && index < numbers.length ? numbers[index] : 0;
        }

        /** Reads the command that begins there; false if none of its form does. */
        boolean read(Text text, int start) {
            letter = text.signAt(start);
            int wanted = numbersWanted();
            int at = start + 1;
            for (int i = 0; i < wanted && i < numbers.length; i++) {
                int digits = text.digitsAt(at);
                numbers[i] = text.numberAt(at, digits);
                char due = i + 1 < wanted ? ',' : ';';
                if (digits == 0 || text.signAt(at + digits) != due) {
                    return false;
                }
                at += digits + 1;
            }
            end = at;
            return wanted > 0;
        }

        private int numbersWanted() {
            switch (letter) {
                case 'k': return 2;
                case 'a': return 2;
                case 's': return 4;
                case 'm': return 2;
                case 'z': return 1;
                default: return 0;
            }
        }
    }

    /** Does the commands of a text on a copy of the state, up to the first one that is not possible. */
    private static final class Trial {
        final State state = new State();
        final Command command = new Command();
        int done;
        int at;
        int reason;
        int cause;

        void run(Text text, State from) {
            state.copyFrom(from);
            done = 0;
            at = 0;
            reason = 0;
            cause = 0;
            // A command has characters of its own, so there are no more turns than characters.
            for (int turn = 0; turn < TEXT && at < text.length && reason == 0; turn++) {
                reason = faultOfNext(text);
                if (reason == 0) {
                    state.carryOut(command);
                    done++;
                    at = command.end;
                }
            }
        }

        private int faultOfNext(Text text) {
            if (!command.read(text, at)) {
                return FORM;
            }
            cause = state.refusalOf(command);
            return cause < 0 ? REFUSED : 0;
        }
    }
}

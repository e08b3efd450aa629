import java.util.ArrayDeque;
import java.util.ArrayList;
import java.util.Arrays;
import java.util.Comparator;
import java.util.Deque;
import java.util.List;
import java.util.Map;
import java.util.TreeMap;
import java.util.TreeSet;
import java.util.regex.Matcher;
import java.util.regex.Pattern;
import java.util.stream.Collectors;

/**
 * The document once more, in another way: what is kept roughly is not kept here, but found anew from the exact set each
 * time, and no table is ever changed: a change puts another one in its place, so that copies may share them.
 */
final class RoughModel {
    static final Pattern COMMAND = Pattern.compile(
        "([kam])(\\d{1,3}),(\\d{1,3});|(s)(\\d{1,3}),(\\d{1,3}),(\\d{1,3}),(\\d{1,3});|(z)(\\d{1,3});");

    static final class Tab {
        int kind;
        int seed;
        long additions;
        int resets;
        TreeMap<Integer, Integer> seen = new TreeMap<>();
        /** What was found of it last, for the same number of things. */
        private List<Integer> kept;
        private int keptOf = -1;

        Tab copy() {
            Tab other = new Tab();
            other.kind = kind;
            other.seed = seed;
            other.additions = additions;
            other.resets = resets;
            other.seen = new TreeMap<>(seen);
            return other;
        }

        void put(int thing, int time) {
            additions = Math.min(additions + 1, 1_000_000_000L);
            seen.putIfAbsent(thing, time);
        }

        void unite(Tab other) {
            additions = Math.min(additions + other.additions, 1_000_000_000L);
            for (Map.Entry<Integer, Integer> e : other.seen.entrySet()) {
                seen.merge(e.getKey(), e.getValue(), Math::min);
            }
        }

        TreeSet<Integer> hashes() {
            TreeSet<Integer> hashes = new TreeSet<>();
            for (int thing : seen.keySet()) {
                hashes.add(hashOf(thing, seed));
            }
            return hashes;
        }

        List<Integer> kept() {
            if (keptOf != seen.size()) {
                keptOf = seen.size();
                kept = kept(hashes());
            }
            return kept;
        }

        /** Kind 0 and 2: 32 bits or 8 registers; kind 1: the kept hashes. */
        List<Integer> kept(TreeSet<Integer> hashes) {
            if (kind == 1) {
                return hashes.stream().limit(8).collect(Collectors.toList());
            }
            Integer[] parts = new Integer[kind == 0 ? 32 : 8];
            Arrays.fill(parts, 0);
            for (int h : hashes) {
                if (kind == 0) {
                    parts[h / 2048] = 1;
                } else {
                    int rank = h / 8 == 0 ? 14 : 1 + Integer.numberOfTrailingZeros(h / 8);
                    parts[h % 8] = Math.max(parts[h % 8], rank);
                }
            }
            return Arrays.asList(parts);
        }

        int low() {
            if (kind == 1) {
                return kept().size();
            }
            return (int) kept().stream().filter(part -> part > 0).count();
        }

        int rough() {
            List<Integer> kept = kept();
            int free = (int) kept.stream().filter(part -> part == 0).count();
            if (kind == 0) {
                int sum = 0;
                for (int k = free + 1; k <= 32; k++) {
                    sum += 32000 / k;
                }
                return sum / 1000;
            }
            if (kind == 1) {
                return kept.size() < 8 ? kept.size() : 458752 / (kept.get(7) + 1);
            }
            int sum = 0;
            if (free > 0) {
                for (int k = free + 1; k <= 8; k++) {
                    sum += 8000 / k;
                }
                return sum / 1000;
            }
            for (int part : kept) {
                sum += Math.round(Math.pow(2, 14 - part));
            }
            return 655360 / sum;
        }

        int high() {
            return (int) Math.min(additions, 1000);
        }

        int told() {
            int rough = rough();
            if (rough < low()) {
                return low();
            }
            return rough > high() ? high() : rough;
        }

        int error() {
            return told() - seen.size();
        }
    }

    static final class State {
        List<Tab> tabs = new ArrayList<>();
        List<int[]> log = new ArrayList<>();
        int time;

        State copy() {
            State other = new State();
            other.tabs.addAll(tabs);
            other.log.addAll(log);
            other.time = time;
            return other;
        }

        boolean no(int table) {
            return table < 0 || table >= tabs.size();
        }

        Tab anew(int table) {
            Tab tab = tabs.get(table).copy();
            tabs.set(table, tab);
            return tab;
        }

        int table(int kind, int seed) {
            if (out(kind, 2) || out(seed, 9)) {
                return -1;
            }
            if (tabs.size() == 6) {
                return -3;
            }
            Tab tab = new Tab();
            tab.kind = kind;
            tab.seed = seed;
            tabs.add(tab);
            return tabs.size() - 1;
        }

        int addRow(int table, int thing, int step, int many) {
            if (no(table) || out(thing, 999) || out(step, 999) || many == 0 || out(many, 100)) {
                return -1;
            }
            if (time + many > 20000) {
                return -3;
            }
            Tab tab = anew(table);
            for (int i = 0; i < many; i++) {
                tab.put((thing + i * step) % 1000, time++);
            }
            return tab.told();
        }

        int merge(int into, int from) {
            if (no(into) || no(from) || into == from) {
                return -1;
            }
            if (unlike(into, from)) {
                return -2;
            }
            Tab tab = anew(into);
            tab.unite(tabs.get(from));
            return tab.told();
        }

        boolean unlike(int one, int other) {
            return tabs.get(one).kind != tabs.get(other).kind || tabs.get(one).seed != tabs.get(other).seed;
        }

        int reset(int table) {
            if (no(table)) {
                return -1;
            }
            Tab tab = anew(table);
            int exact = tab.seen.size();
            log.add(0, new int[] {table, tab.told(), exact});
            if (log.size() > 8) {
                log.remove(8);
            }
            tab.seen.clear();
            tab.additions = 0;
            tab.resets++;
            return exact;
        }
    }

    State state = new State();
    final Deque<State> history = new ArrayDeque<>();
    String text = "";

    static boolean out(int number, int last) {
        return number < 0 || number > last;
    }

    static int hashOf(int thing, int seed) {
        long h = (thing * 40503L + seed * 9973L + 7919L) & 0xFFFF;
        h = ((h ^ (h >> 7)) * 25173L) & 0xFFFF;
        return (int) (h ^ (h >> 8));
    }

    private int settle(State before, int answer) {
        if (answer >= 0) {
            history.addLast(before);
            if (history.size() > 4) {
                history.removeFirst();
            }
        }
        return answer;
    }

    int table(int kind, int seed) {
        return settle(state.copy(), state.table(kind, seed));
    }

    int add(int table, int thing) {
        return settle(state.copy(), state.addRow(table, thing, 0, 1));
    }

    int addRow(int table, int thing, int step, int many) {
        return settle(state.copy(), state.addRow(table, thing, step, many));
    }

    int merge(int into, int from) {
        return settle(state.copy(), state.merge(into, from));
    }

    int reset(int table) {
        return settle(state.copy(), state.reset(table));
    }

    int tableOf(int table, int what) {
        if (state.no(table) || out(what, 9)) {
            return -1;
        }
        Tab tab = state.tabs.get(table);
        int[] all = {tab.kind, tab.seed, tab.told(), tab.seen.size(), tab.low(), tab.high(), tab.error() + 1000,
            (int) tab.additions, tab.resets, tab.rough()};
        return all[what];
    }

    int keptAt(int table, int index) {
        if (state.no(table) || index < 0) {
            return -1;
        }
        Tab tab = state.tabs.get(table);
        List<Integer> kept = tab.kept();
        if (index < kept.size()) {
            return kept.get(index);
        }
        return tab.kind == 1 ? -4 : -1;
    }

    int sawAt(int table, int index, int what) {
        if (state.no(table) || index < 0 || out(what, 1)) {
            return -1;
        }
        List<Integer> things = new ArrayList<>(state.tabs.get(table).seen.keySet());
        if (index >= things.size()) {
            return -4;
        }
        int thing = things.get(index);
        return what == 0 ? thing : state.tabs.get(table).seen.get(thing);
    }

    int hash(int thing, int seed) {
        return out(thing, 999) || out(seed, 9) ? -1 : hashOf(thing, seed);
    }

    private static boolean keeps(Tab tab, int thing) {
        TreeSet<Integer> more = tab.hashes();
        more.add(hashOf(thing, tab.seed));
        return tab.kept(more).equals(tab.kept());
    }

    int has(int table, int thing, int what) {
        if (state.no(table) || out(thing, 999) || out(what, 1)) {
            return -1;
        }
        Tab tab = state.tabs.get(table);
        return (what == 0 ? tab.seen.containsKey(thing) : keeps(tab, thing)) ? 1 : 0;
    }

    int logAt(int index, int what) {
        if (index < 0 || out(what, 2)) {
            return -1;
        }
        return index < state.log.size() ? state.log.get(index)[what] : -4;
    }

    int count(int what) {
        switch (what) {
            case 0: return state.tabs.size();
            case 1: return state.time;
            case 2: return seenBy(1);
            case 3: return state.tabs.isEmpty() ? 0 : seenBy(state.tabs.size());
            case 4: return state.log.size();
            case 5: return (int) state.tabs.stream().filter(tab -> tab.error() == 0).count();
            case 6: return history.size();
            case 7: return text.length();
            default: return -1;
        }
    }

    /** How many things were seen by so many tables or more. */
    private int seenBy(int tables) {
        int[] by = new int[1000];
        for (Tab tab : state.tabs) {
            for (int thing : tab.seen.keySet()) {
                by[thing]++;
            }
        }
        return (int) Arrays.stream(by).filter(many -> many >= tables).count();
    }

    int errorBits(int table) {
        if (state.no(table)) {
            return -1;
        }
        Tab tab = state.tabs.get(table);
        return tab.seen.isEmpty() ? -4 : Float.floatToIntBits((float) tab.error() / (float) tab.seen.size());
    }

    int byError(int place) {
        if (place < 0) {
            return -1;
        }
        List<Integer> order = new ArrayList<>();
        for (int i = 0; i < state.tabs.size(); i++) {
            order.add(i);
        }
        order.sort(Comparator.comparing(i -> -Math.abs(state.tabs.get(i).error())));
        return place < order.size() ? order.get(place) : -4;
    }

    int would(int table, int thing) {
        if (state.no(table) || out(thing, 999)) {
            return -1;
        }
        Tab tab = state.tabs.get(table).copy();
        tab.put(thing, 0);
        return tab.told();
    }

    int raises(int table) {
        if (state.no(table)) {
            return -1;
        }
        Tab tab = state.tabs.get(table);
        TreeSet<Integer> hashes = tab.hashes();
        List<Integer> kept = tab.kept();
        for (int thing = 0; thing < 1000; thing++) {
            if (hashes.add(hashOf(thing, tab.seed))) {
                if (!tab.kept(hashes).equals(kept)) {
                    return thing;
                }
                hashes.remove(hashOf(thing, tab.seed));
            }
        }
        return -4;
    }

    int both(int one, int other, int what) {
        if (state.no(one) || state.no(other) || out(what, 3)) {
            return -1;
        }
        Tab first = state.tabs.get(one);
        Tab second = state.tabs.get(other);
        TreeSet<Integer> things = new TreeSet<>(first.seen.keySet());
        if (what == 1) {
            things.addAll(second.seen.keySet());
            return things.size();
        }
        if (what == 3) {
            things.retainAll(second.seen.keySet());
            return things.size();
        }
        if (state.unlike(one, other)) {
            return -2;
        }
        Tab merged = first.copy();
        merged.unite(second);
        int less = first.told() + second.told() - merged.told();
        return what == 0 ? merged.told() : less < 0 ? 0 : less;
    }

    int undo() {
        if (history.isEmpty()) {
            return -2;
        }
        state = history.removeLast();
        return history.size();
    }

    int type(int character) {
        if (character < 32 || character > 126) {
            return -1;
        }
        if (text.length() == 80) {
            return -3;
        }
        text += (char) character;
        return text.length();
    }

    int clearText() {
        int before = text.length();
        text = "";
        return before;
    }

    /** Position, reason, cause, how many commands were done; does them on the given state. */
    private int[] perform(State on) {
        Matcher matcher = COMMAND.matcher(text);
        int at = 0;
        int done = 0;
        while (at < text.length()) {
            matcher.region(at, text.length());
            if (!matcher.lookingAt()) {
                return new int[] {at, 1, -4, done};
            }
            int answer = perform(on, text.substring(at, matcher.end() - 1));
            if (answer < 0) {
                return new int[] {at, 2, answer, done};
            }
            done++;
            at = matcher.end();
        }
        return new int[] {-4, -4, -4, done};
    }

    private static int perform(State on, String command) {
        String[] parts = command.substring(1).split(",");
        int[] n = new int[4];
        for (int i = 0; i < parts.length; i++) {
            n[i] = Integer.parseInt(parts[i]);
        }
        switch (command.charAt(0)) {
            case 'k': return on.table(n[0], n[1]);
            case 'a': return on.addRow(n[0], n[1], 0, 1);
            case 's': return on.addRow(n[0], n[1], n[2], n[3]);
            case 'm': return on.merge(n[0], n[1]);
            default: return on.reset(n[0]);
        }
    }

    int fault(int what) {
        return out(what, 2) ? -1 : perform(state.copy())[what];
    }

    int play() {
        State after = state.copy();
        int[] found = perform(after);
        if (found[1] > 0) {
            return -2;
        }
        State before = state;
        state = after;
        return settle(before, found[3]);
    }
}

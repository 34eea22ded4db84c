import java.util.ArrayDeque;
import java.util.ArrayList;
import java.util.List;
import java.util.TreeMap;
import java.util.TreeSet;

/**
 * The document told once more, as plainly as the Java library allows and without a thought for
 * room or speed, so that two ways of writing it can be held against each other.
 */
final class PlainModel {
    static final int NONE = -1, UNKNOWN = -1000000001, OUTSIDE = -1000000002, NOT = -1000000003, FULL = -1000000004;

    record Gate(int kind, int a, int b, int c, int delay, int mode) {
        boolean looksAt(int w) {
            return a == w || kind != 0 && b == w;
        }
    }

    record Due(int time, int level) {
    }

    record Hand(int time, int wire, int level) {
    }

    record Change(int time, int level) {
    }

    record Entry(int wire, int level) {
    }

    /** All that undo brings back; copied whole ahead of each deed. */
    static final class World {
        int time = 0;
        long cycles = 0;
        boolean endless = false;
        List<Integer> level = new ArrayList<>();
        List<Integer> drive = new ArrayList<>();
        List<List<Due>> queue = new ArrayList<>();
        List<Hand> hand = new ArrayList<>();
        List<List<Change>> history = new ArrayList<>();

        World copy() {
            World o = new World();
            o.time = time;
            o.cycles = cycles;
            o.endless = endless;
            o.level = new ArrayList<>(level);
            o.drive = new ArrayList<>(drive);
            for (List<Due> q : queue) {
                o.queue.add(new ArrayList<>(q));
            }
            o.hand = new ArrayList<>(hand);
            for (List<Change> h : history) {
                o.history.add(new ArrayList<>(h));
            }
            return o;
        }
    }

    private final StringBuilder text = new StringBuilder();
    private int faultPlace = NONE;
    private List<Integer> firstLevels = new ArrayList<>();
    private List<Gate> gates = new ArrayList<>();
    private World world = new World();
    private final ArrayDeque<World> past = new ArrayDeque<>();
    private final World[] image = new World[2];
    private final long[] imageSeed = new long[2];
    private final List<Entry> book = new ArrayList<>();
    private long seed = 0;

    int feed(int letter) {
        if (letter < 0 || letter > 255) {
            return OUTSIDE;
        }
        if (text.length() == 200) {
            return FULL;
        }
        text.append((char) letter);
        return text.length();
    }

    int wires() {
        String t = text.toString();
        text.setLength(0);
        List<Integer> newLevels = new ArrayList<>();
        List<Gate> newGates = new ArrayList<>();
        // place -> the faults there; the answer is the first place's least
        TreeMap<Integer, TreeSet<Integer>> faults = new TreeMap<>();
        read(t, newLevels, newGates, faults);
        if (!faults.isEmpty()) {
            faultPlace = faults.firstKey();
            return -10 - faults.firstEntry().getValue().first();
        }
        faultPlace = NONE;
        firstLevels = newLevels;
        gates = newGates;
        world = new World();
        for (int v : firstLevels) {
            world.level.add(v);
            world.history.add(new ArrayList<>());
        }
        for (Gate g : gates) {
            world.drive.add(firstLevels.get(g.c));
            world.queue.add(new ArrayList<>());
        }
        tellAll(world);
        past.clear();
        image[0] = null;
        image[1] = null;
        book.clear();
        return firstLevels.size();
    }

    private static void mark(TreeMap<Integer, TreeSet<Integer>> faults, int place, int number) {
        faults.computeIfAbsent(place, k -> new TreeSet<>()).add(number);
    }

    /** A token is a letter or a row of figures; read by what may follow, as a table of states. */
    private static void read(String t, List<Integer> levels, List<Gate> gates, TreeMap<Integer, TreeSet<Integer>> faults) {
        int state = 0; // 0 a word; 1 V; 2 ';' of a wire; 10 .. 15 K A B C D M; 16 ';' of a gate
        int v = 0;
        int[] n = new int[6];
        int i = 0;
        while (i < t.length()) {
            char c = t.charAt(i);
            if (c == ' ') {
                i++;
                continue;
            }
            int j = i + 1;
            if (Character.isDigit(c) && c < 128) {
                while (j < t.length() && t.charAt(j) >= '0' && t.charAt(j) <= '9') {
                    j++;
                }
            }
            String token = t.substring(i, j);
            boolean number = c >= '0' && c <= '9';
            int value = !number ? -1 : token.length() > 2 ? 1000 : Integer.parseInt(token);
            if (state == 0) {
                if (c == 'w') {
                    if (levels.size() == 8) {
                        mark(faults, i, 3);
                    }
                    state = 1;
                } else if (c == 'g') {
                    if (gates.size() == 8) {
                        mark(faults, i, 3);
                    }
                    state = 10;
                } else {
                    mark(faults, i, 1);
                }
            } else if (state == 1) {
                if (!number) {
                    mark(faults, i, 1);
                } else if (value > 3) {
                    mark(faults, i, 2);
                }
                v = value;
                state = 2;
            } else if (state == 2 || state == 16) {
                if (c != ';') {
                    mark(faults, i, 1);
                } else if (state == 2) {
                    levels.add(v);
                } else {
                    gates.add(new Gate(n[0], n[1], n[2], n[3], n[4], n[5]));
                }
                state = 0;
            } else {
                int[] most = {5, levels.size() - 1, levels.size() - 1, levels.size() - 1, 20, 1};
                if (!number) {
                    mark(faults, i, 1);
                } else if (value > most[state - 10]) {
                    mark(faults, i, 2);
                }
                n[state - 10] = value;
                if (state == 14 && value == 0 && new Gate(n[0], n[1], n[2], n[3], 0, 0).looksAt(n[3])) {
                    mark(faults, i, 4);
                }
                state++;
            }
            if (!faults.isEmpty()) {
                return;
            }
            i = j;
        }
        if (state != 0) {
            mark(faults, t.length(), 1);
        }
    }

    int fault() {
        return faultPlace;
    }

    // ---- levels

    static int join(int a, int b) {
        if (a == 2) {
            return b;
        }
        if (b == 2) {
            return a;
        }
        return a == b ? a : 3;
    }

    static int made(int kind, int a, int b, int drives) {
        int x = a == 2 ? 3 : a;
        int y = b == 2 ? 3 : b;
        if (kind == 0) {
            return x == 1 ? 0 : x == 0 ? 1 : 3;
        }
        if (kind == 1) {
            return x == 0 || y == 0 ? 0 : x == 1 && y == 1 ? 1 : 3;
        }
        if (kind == 2) {
            return x == 1 || y == 1 ? 1 : x == 0 && y == 0 ? 0 : 3;
        }
        if (kind == 3) {
            return x == 3 || y == 3 ? 3 : x != y ? 1 : 0;
        }
        if (kind == 4) {
            return y == 0 ? 2 : y == 1 ? x : 3;
        }
        return y == 1 ? x : drives;
    }

    private static boolean isLevel(int v) {
        return v >= 0 && v <= 3;
    }

    int resolved(int a, int b) {
        return isLevel(a) && isLevel(b) ? join(a, b) : UNKNOWN;
    }

    int comes(int kind, int a, int b) {
        if (!isLevel(a) || !isLevel(b)) {
            return UNKNOWN;
        }
        return kind < 0 || kind > 4 ? OUTSIDE : made(kind, a, b, -99);
    }

    // ---- what happens

    private int comesNow(World s, int g) {
        Gate q = gates.get(g);
        return made(q.kind, s.level.get(q.a), s.level.get(q.b), s.drive.get(g));
    }

    private void tellAll(World s) {
        for (int g = 0; g < gates.size(); g++) {
            tellOne(s, g);
        }
    }

    private void tellOne(World s, int g) {
        int level = comesNow(s, g);
        int when = s.time + gates.get(g).delay;
        List<Due> q = s.queue.get(g);
        q.removeIf(d -> d.time >= when);
        if (gates.get(g).mode == 1) {
            int last = -1;
            for (int i = 0; i < q.size(); i++) {
                if (q.get(i).level != level) {
                    last = i;
                }
            }
            q.subList(0, last + 1).clear();
        }
        if (q.size() == 8) {
            q.remove(0);
        }
        q.add(new Due(when, level));
    }

    private static boolean still(World s) {
        return s.hand.isEmpty() && s.queue.stream().allMatch(List::isEmpty);
    }

    private static int least(World s) {
        int least = Integer.MAX_VALUE;
        for (List<Due> q : s.queue) {
            for (Due d : q) {
                least = Math.min(least, d.time);
            }
        }
        for (Hand h : s.hand) {
            least = Math.min(least, h.time);
        }
        return least;
    }

    private int driven(World s, int w, int without) {
        int level = 2;
        for (int g = 0; g < gates.size(); g++) {
            if (g != without && gates.get(g).c == w) {
                level = join(level, s.drive.get(g));
            }
        }
        return level;
    }

    private boolean isDriven(int w) {
        return gates.stream().anyMatch(g -> g.c == w);
    }

    private void stepOn(World s) {
        s.time = Math.max(s.time, least(s));
        int changing = 0;
        while (!still(s) && least(s) == s.time) {
            List<Integer> next = new ArrayList<>(s.level);
            for (int g = 0; g < gates.size(); g++) {
                List<Due> q = s.queue.get(g);
                if (!q.isEmpty() && q.get(0).time == s.time) {
                    s.drive.set(g, q.remove(0).level);
                }
            }
            for (int i = 0; i < s.hand.size(); i++) {
                if (s.hand.get(i).time == s.time) {
                    Hand h = s.hand.remove(i);
                    next.set(h.wire, h.level);
                    break;
                }
            }
            for (int w = 0; w < next.size(); w++) {
                if (isDriven(w)) {
                    next.set(w, driven(s, w, NONE));
                }
            }
            TreeSet<Integer> changed = new TreeSet<>();
            for (int w = 0; w < next.size(); w++) {
                if (!next.get(w).equals(s.level.get(w))) {
                    changed.add(w);
                    s.history.get(w).add(new Change(s.time, next.get(w)));
                }
            }
            s.level = next;
            s.cycles++;
            // from the last gate on, as the order must not matter
            for (int g = gates.size() - 1; g >= 0; g--) {
                for (int w : changed) {
                    if (gates.get(g).looksAt(w)) {
                        tellOne(s, g);
                        break;
                    }
                }
            }
            if (!changed.isEmpty() && ++changing == 40) {
                s.endless = true;
                s.queue.forEach(List::clear);
                s.hand.clear();
            }
        }
    }

    // ---- what is asked

    int told(int what) {
        return switch (what) {
            case 0 -> firstLevels.size();
            case 1 -> gates.size();
            case 2 -> text.length();
            case 3 -> world.time;
            case 4 -> (int) Math.min(99999, world.cycles);
            case 5 -> world.endless ? 1 : 0;
            case 6 -> still(world) ? 1 : 0;
            case 7 -> holds();
            case 8 -> flickers();
            case 9 -> settles();
            case 10 -> world.hand.size();
            case 11 -> book.size();
            case 12 -> wrong();
            case 13 -> past.size();
            default -> OUTSIDE;
        };
    }

    private int holds() {
        int set = 0;
        for (int g = 0; g < gates.size(); g++) {
            if (world.drive.get(g) == comesNow(world, g)) {
                set += 1 << g;
            }
        }
        return set;
    }

    private int flickers() {
        int set = 0;
        for (int w = 0; w < world.history.size(); w++) {
            List<Change> h = world.history.get(w);
            for (int i = 1; i < h.size(); i++) {
                if (h.get(i).time == h.get(i - 1).time) {
                    set |= 1 << w;
                }
            }
        }
        return set;
    }

    private int settles() {
        World s = world.copy();
        for (int steps = 0; steps <= 100; steps++) {
            if (s.endless) {
                return NONE;
            }
            if (still(s)) {
                return steps;
            }
            stepOn(s);
        }
        return NONE;
    }

    private int wrong() {
        for (int i = 0; i < book.size(); i++) {
            if (world.level.get(book.get(i).wire) != book.get(i).level) {
                return i;
            }
        }
        return NONE;
    }

    private boolean hasWire(int w) {
        return w >= 0 && w < firstLevels.size();
    }

    int wire(int w, int what) {
        if (!hasWire(w)) {
            return UNKNOWN;
        }
        List<Change> h = world.history.get(w);
        return switch (what) {
            case 0 -> world.level.get(w);
            case 1 -> (int) gates.stream().filter(g -> g.c == w).count();
            case 2 -> Math.min(9999, h.size());
            case 3 -> h.isEmpty() ? NONE : h.get(h.size() - 1).time;
            case 4 -> (int) gates.stream().filter(g -> g.looksAt(w)).count();
            default -> OUTSIDE;
        };
    }

    int wave(int w, int k, int what) {
        if (!hasWire(w)) {
            return UNKNOWN;
        }
        if (what != 0 && what != 1) {
            return OUTSIDE;
        }
        List<Change> h = world.history.get(w);
        if (k < 0 || k >= 8 || k >= h.size()) {
            return NONE;
        }
        Change c = h.get(h.size() - 1 - k);
        return what == 0 ? c.time : c.level;
    }

    int gate(int g, int what) {
        if (g < 0 || g >= gates.size()) {
            return UNKNOWN;
        }
        Gate q = gates.get(g);
        return switch (what) {
            case 0 -> q.kind;
            case 1 -> q.a;
            case 2 -> q.b;
            case 3 -> q.c;
            case 4 -> q.delay;
            case 5 -> q.mode;
            case 6 -> world.drive.get(g);
            case 7 -> comesNow(world, g);
            case 8 -> world.queue.get(g).size();
            case 9 -> driven(world, q.c, g);
            default -> OUTSIDE;
        };
    }

    int queue(int g, int k, int what) {
        if (g < 0 || g >= gates.size()) {
            return UNKNOWN;
        }
        if (what != 0 && what != 1) {
            return OUTSIDE;
        }
        List<Due> q = world.queue.get(g);
        if (k < 0 || k >= q.size()) {
            return NONE;
        }
        return what == 0 ? q.get(k).time : q.get(k).level;
    }

    // ---- deeds

    private void remember() {
        past.addLast(world.copy());
        if (past.size() > 16) {
            past.removeFirst();
        }
    }

    int step() {
        if (still(world) || world.endless) {
            return NOT;
        }
        remember();
        stepOn(world);
        return world.time;
    }

    int run(int n) {
        if (n < 1 || n > 200) {
            return OUTSIDE;
        }
        if (world.endless) {
            return NOT;
        }
        remember();
        int end = world.time + n;
        int steps = 0;
        while (!still(world) && least(world) <= end) {
            stepOn(world);
            steps++;
        }
        if (!world.endless) {
            world.time = end;
        }
        return steps;
    }

    private int refusalOfSet(int w, int level, int d) {
        if (!hasWire(w) || !isLevel(level)) {
            return UNKNOWN;
        }
        if (d < 0 || d > 20) {
            return OUTSIDE;
        }
        if (isDriven(w) || world.endless) {
            return NOT;
        }
        return world.hand.size() == 8 ? FULL : 0;
    }

    private void setSo(int w, int level, int d) {
        Hand h = new Hand(world.time + d, w, level);
        int at = 0;
        for (int i = 0; i < world.hand.size(); i++) {
            if (world.hand.get(i).time <= h.time) {
                at = i + 1;
            }
        }
        world.hand.add(at, h);
    }

    int set(int w, int level, int d) {
        int refusal = refusalOfSet(w, level, d);
        if (refusal != 0) {
            return refusal;
        }
        remember();
        setSo(w, level, d);
        return world.hand.size();
    }

    int calm() {
        if (!world.endless) {
            return NOT;
        }
        remember();
        world.endless = false;
        tellAll(world);
        return world.time;
    }

    private int draw(int n) {
        seed = (seed * 1103515245L + 12345L) % 2147483648L;
        return (int) (seed / 65536 % n);
    }

    int drift(int n) {
        if (n < 1 || n > 16) {
            return OUTSIDE;
        }
        for (int i = 0; i < n && !firstLevels.isEmpty(); i++) {
            remember();
            int w = draw(firstLevels.size());
            int level = draw(4);
            int d = draw(21);
            if (refusalOfSet(w, level, d) == 0) {
                setSo(w, level, d);
            }
            if (!still(world) && !world.endless) {
                stepOn(world);
            }
        }
        return world.time;
    }

    int undo(int n) {
        if (n < 1 || n > 16) {
            return OUTSIDE;
        }
        if (n > past.size()) {
            return NOT;
        }
        for (int i = 0; i < n; i++) {
            world = past.removeLast();
        }
        return world.time;
    }

    int write(int w, int level) {
        if (!hasWire(w) || !isLevel(level)) {
            return UNKNOWN;
        }
        if (book.size() == 20) {
            return FULL;
        }
        book.add(new Entry(w, level));
        return book.size();
    }

    int tear() {
        int had = book.size();
        book.clear();
        return had;
    }

    int seed(int v) {
        if (v < 0) {
            return OUTSIDE;
        }
        int was = (int) seed;
        seed = v;
        return was;
    }

    int keep(int i) {
        if (i != 0 && i != 1) {
            return UNKNOWN;
        }
        image[i] = world.copy();
        imageSeed[i] = seed;
        past.clear();
        return 1;
    }

    int goBack(int i) {
        if (i != 0 && i != 1) {
            return UNKNOWN;
        }
        if (image[i] == null) {
            return NOT;
        }
        world = image[i].copy();
        seed = imageSeed[i];
        past.clear();
        return 1;
    }
}

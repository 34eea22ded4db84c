import java.util.ArrayList;
import java.util.List;
import java.util.function.Supplier;
import java.util.function.ToIntFunction;

/**
 * The terms' rules of refusals: every call with arguments within, at and beyond their bounds, on objects in
 * many states; what is due is told from what each state is known to be, not asked of the object.
 */
final class EdgesOfRefusals {
    private static final int MADE = 0;
    private static final int[] ENDS = {Integer.MIN_VALUE, Integer.MAX_VALUE};

    /** What a state is known to be. */
    record State(String name, Supplier<DeltaCycles> make, int wires, int gates, int driven, int letters, boolean endless, boolean still,
        int hand, int book, int undone, boolean first, boolean second) {
        boolean hasWire(int w) {
            return w >= 0 && w < wires;
        }

        boolean hasGate(int g) {
            return g >= 0 && g < gates;
        }

        boolean drives(int w) {
            return (driven >> w & 1) == 1;
        }
    }

    record Call(String text, ToIntFunction<DeltaCycles> made, int refusal, boolean asks) {
    }

    private EdgesOfRefusals() {
    }

    static void all() {
        Edge.onlyNames("Terms", "Words in capitals are told where they come first. All numbers are whole.");
        Edge.says("Terms", "REFUSALS, of several the first in this order: UNKNOWN (a WIRE, GATE, IMAGE that there is not), "
            + "OUTSIDE (another number out of its bounds), NOT (not now, as told), FULL.");
        for (State s : states()) {
            known(s);
            for (Call call : calls(s)) {
                answers(s, call);
            }
        }
        Edge.says("Terms", "What is refused changes nothing.");
        for (State s : states()) {
            String ahead = Seen.whole(s.make);
            for (Call call : calls(s)) {
                if (call.refusal != MADE) {
                    leavesAll(s, call, ahead);
                }
            }
        }
        Edge.says("Section 3 (promises 4 to 11)", "ASKED, nothing changes by it.");
        for (State s : states()) {
            String ahead = Seen.whole(s.make);
            for (Call call : calls(s)) {
                if (call.refusal == MADE && call.asks) {
                    leavesAll(s, call, ahead);
                }
            }
        }
    }

    /** The state is what it is said to be. */
    private static void known(State s) {
        DeltaCycles x = s.make.get();
        int[][] due = {{0, s.wires}, {1, s.gates}, {2, s.letters}, {5, s.endless ? 1 : 0}, {6, s.still ? 1 : 0}, {10, s.hand}, {11, s.book}, {13, s.undone}};
        for (int[] d : due) {
            Edge.due(s.name + ": told(" + d[0] + ")", x.told(d[0]), d[1]);
        }
    }

    private static void answers(State s, Call call) {
        int got = call.made.applyAsInt(s.make.get());
        if (call.refusal != MADE || Seen.isRefusal(got)) {
            Edge.due(s.name + ": " + call.text, got, call.refusal);
        }
    }

    private static void leavesAll(State s, Call call, String ahead) {
        String then = Seen.whole(() -> {
            DeltaCycles x = s.make.get();
            call.made.applyAsInt(x);
            return x;
        });
        Edge.same(s.name + ": all is as ahead of " + call.text, then, ahead);
    }

    // ---- states

    private static final String TWO_GATES = "w0;w1;w0;w2;g0 0 0 1 3 0;g1 0 2 3 5 1;";
    private static final String RING = "w0;w0;w1;w0;g1 0 2 1 0 0;g0 1 1 2 0 0;";

    private static List<State> states() {
        List<State> all = new ArrayList<>();
        all.add(new State("a new object", DeltaCycles::new, 0, 0, 0, 0, false, true, 0, 0, 0, false, false));
        all.add(new State("a text taken", () -> Check.of(TWO_GATES), 4, 2, 10, 0, false, false, 0, 0, 0, false, false));
        all.add(new State("some of each", EdgesOfRefusals::someOfEach, 4, 2, 10, 6, false, false, 3, 2, 5, true, false));
        all.add(new State("all still", EdgesOfRefusals::allStill, 4, 2, 10, 0, false, true, 0, 1, 1, false, true));
        all.add(new State("all is full", EdgesOfRefusals::allFull, 4, 2, 10, 200, false, false, 8, 20, 16, true, true));
        all.add(new State("endless", () -> endless(false), 4, 2, 6, 0, true, true, 0, 0, 3, false, true));
        all.add(new State("endless and full", () -> endless(true), 4, 2, 6, 200, true, true, 0, 20, 16, false, true));
        all.add(new State("eight wires and gates", EdgesOfRefusals::eightOfEach, 8, 8, 128, 0, false, false, 0, 0, 1, false, false));
        all.add(new State("a fault", EdgesOfRefusals::withFault, 1, 0, 0, 3, false, true, 0, 0, 0, false, false));
        return all;
    }

    private static DeltaCycles someOfEach() {
        DeltaCycles x = Check.of(TWO_GATES);
        x.run(2);
        x.keep(0);
        x.seed(12);
        x.drift(1);
        x.run(20);
        x.set(0, 1, 6);
        x.set(2, 1, 7);
        x.set(0, 3, 7);
        x.write(1, 1);
        x.write(0, 3);
        Check.feed(x, "w3;w1;");
        return x;
    }

    private static DeltaCycles allStill() {
        DeltaCycles x = Check.of(TWO_GATES);
        x.keep(1);
        x.run(50);
        x.write(3, 2);
        return x;
    }

    private static DeltaCycles allFull() {
        DeltaCycles x = Check.of(TWO_GATES);
        x.keep(0);
        x.run(1);
        x.keep(1);
        for (int i = 0; i < 9; i++) {
            x.run(1);
        }
        for (int i = 0; i < 8; i++) {
            x.set(i % 2 * 2, i % 4, 1 + i % 3);
        }
        for (int i = 0; i < 20; i++) {
            x.write(i % 4, i % 3);
        }
        Check.feed(x, " ".repeat(191) + "w3;w1;w0;");
        return x;
    }

    private static DeltaCycles endless(boolean full) {
        DeltaCycles x = Check.of(RING);
        x.seed(31);
        x.keep(1);
        for (int i = 0; full && i < 14; i++) {
            x.run(1);
        }
        x.run(4);
        x.set(0, 1, 3);
        x.step();
        for (int i = 0; full && i < 20; i++) {
            x.write(i % 4, i % 2);
        }
        if (full) {
            Check.feed(x, " ".repeat(194) + "w3;w1;");
        }
        return x;
    }

    private static DeltaCycles eightOfEach() {
        DeltaCycles x = Check.of("w0;w1;w2;w3;w0;w1;w2;w3;" + "g2 0 1 7 20 0;".repeat(8));
        x.run(3);
        return x;
    }

    private static DeltaCycles withFault() {
        DeltaCycles x = Check.of("w1;");
        Check.take(x, "w1;w7;");
        Check.feed(x, "w2;");
        return x;
    }

    // ---- calls

    private static int first(boolean unknown, boolean outside, boolean not, boolean full) {
        return unknown ? DeltaCycles.UNKNOWN : outside ? DeltaCycles.OUTSIDE : not ? DeltaCycles.NOT : full ? DeltaCycles.FULL : MADE;
    }

    /** From one below the least to one above the most, where the bounds are few; else about them, and the ends of all numbers. */
    private static int[] about(int least, int most) {
        int[] numbers = most - least < 14 ? new int[most - least + 5] : new int[8];
        numbers[0] = ENDS[0];
        numbers[1] = ENDS[1];
        int[] edges = {least - 1, least, least + 1, most - 1, most, most + 1};
        for (int i = 2; i < numbers.length; i++) {
            numbers[i] = most - least < 14 ? least + i - 3 : edges[i - 2];
        }
        return numbers;
    }

    private static boolean off(int n, int least, int most) {
        return n < least || n > most;
    }

    private static List<Call> calls(State s) {
        List<Call> all = new ArrayList<>();
        asked(all, s);
        askedOfPlaces(all, s);
        askedOfLevels(all);
        deeds(all, s);
        others(all, s);
        return all;
    }

    private static void asked(List<Call> all, State s) {
        all.add(new Call("fault()", DeltaCycles::fault, MADE, true));
        for (int what : about(0, 13)) {
            all.add(new Call("told(" + what + ")", x -> x.told(what), first(false, off(what, 0, 13), false, false), true));
        }
        for (int w : about(0, Math.max(0, s.wires - 1))) {
            for (int what : about(0, 4)) {
                all.add(new Call("wire(" + w + ", " + what + ")", x -> x.wire(w, what), first(!s.hasWire(w), off(what, 0, 4), false, false), true));
            }
        }
        for (int g : about(0, Math.max(0, s.gates - 1))) {
            for (int what : about(0, 9)) {
                all.add(new Call("gate(" + g + ", " + what + ")", x -> x.gate(g, what), first(!s.hasGate(g), off(what, 0, 9), false, false), true));
            }
        }
    }

    private static void askedOfPlaces(List<Call> all, State s) {
        int[] places = {ENDS[0], -1, 0, 7, 8, ENDS[1]};
        int[] whats = {ENDS[0], -1, 0, 1, 2, ENDS[1]};
        for (int k : places) {
            for (int what : whats) {
                int[] wires = {-1, 0, s.wires - 1, s.wires};
                for (int w : wires) {
                    all.add(new Call("wave(" + w + ", " + k + ", " + what + ")", x -> x.wave(w, k, what),
                        first(!s.hasWire(w), off(what, 0, 1), false, false), true));
                }
                int[] gates = {-1, 0, s.gates - 1, s.gates};
                for (int g : gates) {
                    all.add(new Call("queue(" + g + ", " + k + ", " + what + ")", x -> x.queue(g, k, what),
                        first(!s.hasGate(g), off(what, 0, 1), false, false), true));
                }
            }
        }
    }

    private static void askedOfLevels(List<Call> all) {
        int[] some = {-1, 0, 3, 4};
        for (int a : some) {
            for (int b : some) {
                boolean unknown = off(a, 0, 3) || off(b, 0, 3);
                all.add(new Call("resolved(" + a + ", " + b + ")", x -> x.resolved(a, b), first(unknown, false, false, false), true));
                int[] kinds = {-1, 0, 4, 5};
                for (int kind : kinds) {
                    all.add(new Call("comes(" + kind + ", " + a + ", " + b + ")", x -> x.comes(kind, a, b),
                        first(unknown, off(kind, 0, 4), false, false), true));
                }
            }
        }
    }

    private static void deeds(List<Call> all, State s) {
        all.add(new Call("step()", DeltaCycles::step, first(false, false, s.still || s.endless, false), false));
        all.add(new Call("calm()", DeltaCycles::calm, first(false, false, !s.endless, false), false));
        for (int n : about(1, 200)) {
            all.add(new Call("run(" + n + ")", x -> x.run(n), first(false, off(n, 1, 200), s.endless, false), false));
        }
        for (int n : about(1, 16)) {
            all.add(new Call("drift(" + n + ")", x -> x.drift(n), first(false, off(n, 1, 16), false, false), false));
        }
        int[] counts = {s.undone - 1, s.undone, s.undone + 1};
        for (int[] numbers : new int[][] {about(1, 16), counts}) {
            for (int n : numbers) {
                all.add(new Call("undo(" + n + ")", x -> x.undo(n), first(false, off(n, 1, 16), n > s.undone, false), false));
            }
        }
        int[] delays = {ENDS[0], -1, 0, 20, 21, ENDS[1]};
        for (int w : about(0, Math.max(0, s.wires - 1))) {
            for (int level : about(0, 3)) {
                for (int d : delays) {
                    all.add(new Call("set(" + w + ", " + level + ", " + d + ")", x -> x.set(w, level, d),
                        first(!s.hasWire(w) || off(level, 0, 3), off(d, 0, 20), s.hasWire(w) && s.drives(w) || s.endless, s.hand == 8), false));
                }
            }
        }
    }

    private static void others(List<Call> all, State s) {
        for (int letter : about(0, 255)) {
            all.add(new Call("feed(" + letter + ")", x -> x.feed(letter), first(false, off(letter, 0, 255), false, s.letters == 200), false));
        }
        for (int w : about(0, Math.max(0, s.wires - 1))) {
            for (int level : about(0, 3)) {
                all.add(new Call("write(" + w + ", " + level + ")", x -> x.write(w, level),
                    first(!s.hasWire(w) || off(level, 0, 3), false, false, s.book == 20), false));
            }
        }
        all.add(new Call("tear()", DeltaCycles::tear, MADE, false));
        int[] seeds = {ENDS[0], -1, 0, 1, ENDS[1]};
        for (int v : seeds) {
            all.add(new Call("seed(" + v + ")", x -> x.seed(v), first(false, v < 0, false, false), false));
        }
        for (int i : about(0, 1)) {
            boolean kept = i == 0 ? s.first : s.second;
            all.add(new Call("keep(" + i + ")", x -> x.keep(i), first(off(i, 0, 1), false, false, false), false));
            all.add(new Call("goBack(" + i + ")", x -> x.goBack(i), first(off(i, 0, 1), false, !kept, false), false));
        }
    }
}

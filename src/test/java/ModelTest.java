import java.util.Random;

/** Runs by draws, held against the plain model: every answer, and all that can be asked after each deed. */
public final class ModelTest {
    private static final int RUNS = 4000;
    private static final int CALLS = 120;

    private final Random random;
    private final DeltaCycles x = new DeltaCycles();
    private final PlainModel m = new PlainModel();
    private final StringBuilder log = new StringBuilder();
    private final String name;

    private ModelTest(int run) {
        random = new Random(run * 7919L + 13);
        name = "run " + run;
    }

    public static void main(String[] args) {
        for (int run = 0; run < RUNS; run++) {
            new ModelTest(run).go();
        }
        Check.end("ModelTest");
    }

    private void go() {
        if (random.nextInt(4) == 0) {
            someCalls(5);
        }
        text(random.nextInt(6));
        someCalls(CALLS);
    }

    private void someCalls(int count) {
        for (int i = 0; i < count; i++) {
            call();
            compareAll();
        }
    }

    private void due(String call, int got, int want) {
        log.append(call).append(" = ").append(want).append("; ");
        Check.due(name + ", after " + (got == want ? "" : log) + " " + call, got, want);
    }

    private void call() {
        int n = random.nextInt(100);
        if (n < 22) {
            due("step()", x.step(), m.step());
        } else if (n < 30) {
            int t = most(12, 200);
            due("run(" + t + ")", x.run(t), m.run(t));
        } else if (n < 62) {
            int w = about(m.told(0));
            int level = about(4);
            int d = random.nextInt(3) == 0 ? 0 : about(21);
            due("set(" + w + ", " + level + ", " + d + ")", x.set(w, level, d), m.set(w, level, d));
        } else if (n < 66 || n < 80 && m.told(5) == 1) {
            due("calm()", x.calm(), m.calm());
        } else if (n < 72) {
            int t = most(4, 16);
            due("drift(" + t + ")", x.drift(t), m.drift(t));
        } else if (n < 78) {
            int t = most(3, 16);
            due("undo(" + t + ")", x.undo(t), m.undo(t));
        } else if (n < 84) {
            int w = about(m.told(0));
            int level = about(4);
            due("write(" + w + ", " + level + ")", x.write(w, level), m.write(w, level));
        } else {
            rareCall(n);
        }
    }

    private void rareCall(int n) {
        if (n == 84) {
            due("tear()", x.tear(), m.tear());
        } else if (n < 88) {
            int v = random.nextInt();
            due("seed(" + v + ")", x.seed(v), m.seed(v));
        } else if (n < 93) {
            int i = about(2);
            due("keep(" + i + ")", x.keep(i), m.keep(i));
        } else if (n < 97) {
            int i = about(2);
            due("goBack(" + i + ")", x.goBack(i), m.goBack(i));
        } else if (n == 97) {
            int letter = about(256);
            due("feed(" + letter + ")", x.feed(letter), m.feed(letter));
        } else {
            text(random.nextInt(6));
        }
    }

    /** Mostly 0 .. n-1, now and then just outside. */
    private int about(int n) {
        return random.nextInt(12) == 0 ? random.nextInt(n + 6) - 3 : n < 1 ? 0 : random.nextInt(n);
    }

    /** Mostly 1 .. low, now and then up to most, or just outside. */
    private int most(int low, int most) {
        int n = random.nextInt(12);
        return n == 0 ? 0 : n == 1 ? most + random.nextInt(2) : n == 2 ? 1 + random.nextInt(most) : 1 + random.nextInt(low);
    }

    private void text(int slips) {
        StringBuilder t = new StringBuilder(randomText());
        // most texts are sound; the others have letters put in, taken out or changed
        for (int i = 3; i < slips && t.length() > 0; i++) {
            int at = random.nextInt(t.length());
            char letter = "wg; 0123456789x".charAt(random.nextInt(15));
            int how = random.nextInt(3);
            if (how == 0) {
                t.insert(at, letter);
            } else if (how == 1) {
                t.deleteCharAt(at);
            } else {
                t.setCharAt(at, letter);
            }
        }
        for (int i = 0; i < t.length(); i++) {
            due("feed(" + (int) t.charAt(i) + ")", x.feed(t.charAt(i)), m.feed(t.charAt(i)));
        }
        due("told(2)", x.told(2), m.told(2));
        due("wires()", x.wires(), m.wires());
        due("fault()", x.fault(), m.fault());
    }

    private String randomText() {
        int wires = random.nextInt(30) == 0 ? 0 : 1 + random.nextInt(random.nextInt(10) == 0 ? 9 : 6);
        int gates = random.nextInt(random.nextInt(10) == 0 ? 10 : 6);
        boolean fast = random.nextInt(3) == 0;
        StringBuilder t = new StringBuilder();
        for (int w = 0; w < wires; w++) {
            t.append('w').append(blank(false)).append(random.nextInt(4)).append(blank(false)).append(';');
        }
        for (int g = 0; g < gates; g++) {
            int a = wire(wires);
            int b = wire(wires);
            int c = wire(wires);
            int d = random.nextInt(fast ? 2 : 4) == 0 || fast && random.nextBoolean() ? 0 : random.nextInt(random.nextInt(4) == 0 ? 21 : 6);
            if (d == 0 && (c == a || c == b) && random.nextInt(20) != 0) {
                d = 1;
            }
            t.append(blank(false)).append('g').append(random.nextInt(6)).append(blank(true)).append(a).append(blank(true)).append(b)
                .append(blank(true)).append(c).append(blank(true)).append(d).append(blank(true)).append(random.nextInt(2)).append(';');
        }
        return t.toString();
    }

    private int wire(int wires) {
        return wires < 1 ? 0 : random.nextInt(wires);
    }

    private String blank(boolean needed) {
        int n = random.nextInt(30);
        return n == 0 ? "  " : n == 1 && !needed ? " " : needed && n != 29 ? " " : "";
    }

    private void compareAll() {
        for (int what = -1; what < 15; what++) {
            due("told(" + what + ")", x.told(what), m.told(what));
        }
        int w = about(m.told(0));
        int g = about(m.told(1));
        for (int what = -1; what < 6; what++) {
            due("wire(" + w + ", " + what + ")", x.wire(w, what), m.wire(w, what));
        }
        for (int what = -1; what < 11; what++) {
            due("gate(" + g + ", " + what + ")", x.gate(g, what), m.gate(g, what));
        }
        for (int k = -1; k < 10; k++) {
            for (int what = -1; what < 3; what++) {
                due("wave(" + w + ", " + k + ", " + what + ")", x.wave(w, k, what), m.wave(w, k, what));
                due("queue(" + g + ", " + k + ", " + what + ")", x.queue(g, k, what), m.queue(g, k, what));
            }
        }
        compareLevels();
    }

    private void compareLevels() {
        for (int i = 0; i < m.told(0); i++) {
            due("wire(" + i + ", 0)", x.wire(i, 0), m.wire(i, 0));
            due("wire(" + i + ", 2)", x.wire(i, 2), m.wire(i, 2));
        }
        for (int i = 0; i < m.told(1); i++) {
            due("gate(" + i + ", 6)", x.gate(i, 6), m.gate(i, 6));
            due("gate(" + i + ", 8)", x.gate(i, 8), m.gate(i, 8));
        }
    }
}

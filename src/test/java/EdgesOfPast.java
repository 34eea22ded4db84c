import java.math.BigInteger;
import java.util.ArrayList;
import java.util.List;

/** The edges of draws, of what is undone and of images: the rest of section 3, and promises 16, 17 and 20 to 22. */
final class EdgesOfPast {
    private static final String BUSY = "w0;w1;w0;w2;w0;g1 0 1 2 2 1;g3 0 2 3 1 0;g4 1 0 3 5 0;";
    private static final String RING = "w0;w0;w0;g1 0 2 1 0 0;g0 1 1 2 0 0;";
    private static final int[] SEEDS = {0, 1, 2, 3, 5, 7, 11, 12345, 65535, 65536, 1073741823, 1073741824, 2147483646, 2147483647};

    private EdgesOfPast() {
    }

    static void all() {
        seedAtFirst();
        draws();
        times();
        setSo();
        thenAStep();
        driftCall();
        seedCall();
        deeds();
        sixteenDeeds();
        asAhead();
        seedStays();
        undoCall();
        images();
        keepCall();
        goBackCall();
    }

    private static long next(long seed) {
        BigInteger two31 = BigInteger.TWO.pow(31);
        return BigInteger.valueOf(seed).multiply(BigInteger.valueOf(1103515245)).add(BigInteger.valueOf(12345)).mod(two31).longValueExact();
    }

    private static long after(long seed, int draws) {
        long s = seed;
        for (int i = 0; i < draws; i++) {
            s = next(s);
        }
        return s;
    }

    private static int draw(long seed, int n) {
        return (int) (seed / 65536 % n);
    }

    private static int wireOf(long seed, int wires) {
        return draw(after(seed, 1), wires);
    }

    private static int levelOf(long seed) {
        return draw(after(seed, 2), 4);
    }

    private static int delayOf(long seed) {
        return draw(after(seed, 3), 21);
    }

    /** A seed whose next draws are these. */
    private static int seedFor(int wires, int w, int level, int d) {
        for (int seed = 0; seed < 10000000; seed++) {
            if (wireOf(seed, wires) == w && levelOf(seed) == level && delayOf(seed) == d) {
                return seed;
            }
        }
        Edge.holds("a seed that draws " + w + ", " + level + ", " + d, false);
        return 0;
    }

    private static void seedAtFirst() {
        Edge.says("Section 3 (promises 16, 20)", "BY DRAWS: THE SEED (0 at first: each DRAW it becomes it times 1103515245 and 12345, left over by 2 to the 31;");
        DeltaCycles n = new DeltaCycles();
        Edge.due("seed(0) at first", n.seed(0), 0);
        DeltaCycles x = Check.of("w0;");
        x.drift(1);
        Edge.due("the seed after three draws from 0", x.seed(0), 654583775);
        for (int seed : SEEDS) {
            x.seed(seed);
            x.drift(1);
            long due = after(seed, 3);
            Edge.due("the seed after three draws from " + seed, x.seed(seed), due);
            x.drift(16);
            Edge.due("the seed after 48 draws from " + seed, x.seed(0), after(seed, 48));
        }
    }

    private static void draws() {
        Edge.says("Section 3 (promise 16)", "the DRAW of n is it / 65536, left over by n):");
        for (int wires = 1; wires <= 8; wires++) {
            for (int seed : SEEDS) {
                drawn(seed, wires);
            }
        }
        Edge.says("Section 3 (promise 16)", "a DRAW of WIRES, of 4, of 21:");
        int[][] edges = {{0, 0, 0}, {7, 3, 20}, {7, 0, 0}, {0, 3, 0}, {0, 0, 20}, {3, 1, 1}, {6, 2, 19}};
        for (int[] e : edges) {
            drawn(seedFor(8, e[0], e[1], e[2]), 8);
        }
        drawn(seedFor(1, 0, 3, 20), 1);
        drawn(seedFor(5, 4, 2, 20), 5);
    }

    private static void drawn(int seed, int wires) {
        int w = wireOf(seed, wires);
        int level = levelOf(seed);
        int d = delayOf(seed);
        // what it was is another one, so that it changes
        DeltaCycles x = Check.of(("w" + (level + 1) % 4 + ";").repeat(wires));
        String of = " of seed " + seed + ", " + wires + " WIRES";
        x.run(3);
        x.seed(seed);
        Edge.due("drift(1)" + of, x.drift(1), 3 + d);
        for (int i = 0; i < wires; i++) {
            Edge.due("wire(" + i + ", 0)" + of, x.wire(i, 0), i == w ? level : (level + 1) % 4);
        }
        Edge.due("wire(" + w + ", 3)" + of, x.wire(w, 3), 3 + d);
    }

    private static void times() {
        Edge.says("Section 3 (promise 16)", "n times, if there are WIRES:");
        for (int n = 1; n <= 16; n++) {
            DeltaCycles none = new DeltaCycles();
            none.seed(9);
            none.run(4);
            Edge.due("drift(" + n + ") with no WIRES", none.drift(n), 4);
            Edge.due("nothing is drawn", none.seed(9), 9);
            Edge.due("told(13): nor is it a deed", none.told(13), 1);
            DeltaCycles x = Check.of("w0;w0;w0;");
            x.seed(9);
            x.drift(n);
            Edge.due("the seed after drift(" + n + ")", x.seed(0), after(9, 3 * n));
            Edge.due("told(13): each is a deed", x.told(13), n);
        }
        DeltaCycles y = Check.of("w0;");
        Check.take(y, "");
        y.seed(3);
        y.drift(16);
        Edge.due("the seed, as there are no WIRES any more", y.seed(0), 3);
    }

    private static void setSo() {
        Edge.says("Section 3 (promises 14, 16)", "it is set so BY HAND (if it can be);");
        // a gate drives wire 1
        DeltaCycles x = Check.of("w0;w1;g0 0 0 1 20 0;");
        x.seed(seedFor(2, 1, 3, 4));
        Edge.due("drift(1): a GATE drives it", x.drift(1), 20);
        Edge.due("wire(1, 0)", x.wire(1, 0), 1);
        x.seed(seedFor(2, 0, 3, 4));
        Edge.due("drift(1): none drives it", x.drift(1), 24);
        Edge.due("wire(0, 0)", x.wire(0, 0), 3);
        // eight wait
        DeltaCycles y = Check.of("w0;");
        for (int i = 0; i < 7; i++) {
            y.set(0, 1, 20);
        }
        y.keep(0);
        y.seed(seedFor(1, 0, 3, 4));
        Edge.due("drift(1) while seven wait", y.drift(1), 4);
        Edge.due("wire(0, 0)", y.wire(0, 0), 3);
        Edge.due("told(10)", y.told(10), 7);
        y.goBack(0);
        y.set(0, 1, 20);
        int seed = seedFor(1, 0, 3, 4);
        y.seed(seed);
        Edge.due("drift(1) while eight wait", y.drift(1), 20);
        Edge.due("wire(0, 0)", y.wire(0, 0), 1);
        Edge.due("told(10)", y.told(10), 0);
        Edge.due("the draws were made", y.seed(0), after(seed, 3));
        // it comes behind all else of its time
        DeltaCycles z = Check.of("w0;");
        z.set(0, 1, 4);
        z.seed(seed);
        Edge.due("drift(1)", z.drift(1), 4);
        Edge.due("wave(0, 0, 1)", z.wave(0, 0, 1), 3);
        Edge.due("wave(0, 1, 1)", z.wave(0, 1, 1), 1);
        // ENDLESS: neither set nor stepped
        DeltaCycles u = Check.of(RING);
        u.run(2);
        u.set(0, 1, 0);
        u.step();
        Edge.due("told(5)", u.told(5), 1);
        u.seed(seedFor(3, 0, 0, 4));
        Edge.due("drift(1) while ENDLESS", u.drift(1), 2);
        Edge.due("told(10)", u.told(10), 0);
    }

    private static void thenAStep() {
        Edge.says("Section 3 (promises 12, 16)", "then a STEP (if anything waits, and nothing is ENDLESS).");
        DeltaCycles x = Check.of("w0;w1;g0 0 0 1 3 0;");
        x.run(9);
        int driven = seedFor(2, 1, 0, 5);
        x.seed(driven);
        Edge.due("drift(1): nothing waits", x.drift(1), 9);
        Edge.due("told(13): it is a deed all the same", x.told(13), 2);
        Edge.due("told(4)", x.told(4), 1);
        x.set(0, 1, 6);
        x.set(0, 0, 8);
        x.seed(driven);
        Edge.due("drift(1): one STEP alone", x.drift(1), 15);
        Edge.due("told(10)", x.told(10), 1);
        x.seed(seedFor(2, 0, 3, 0));
        Edge.due("drift(1): set for this TIME", x.drift(1), 15);
        Edge.due("wire(0, 0)", x.wire(0, 0), 3);
        DeltaCycles y = Check.of(RING);
        y.seed(seedFor(3, 0, 1, 0));
        Edge.due("drift(1) into what is ENDLESS", y.drift(1), 0);
        Edge.due("told(5)", y.told(5), 1);
        Edge.due("drift(15)", y.drift(15), 0);
        Edge.due("told(4): no STEP", y.told(4), 40);
        Edge.due("told(13)", y.told(13), 16);
    }

    private static void driftCall() {
        Edge.says("Promise 16", "n times BY DRAWS (1 .. 16): TIME.");
        for (int n = 1; n <= 16; n++) {
            DeltaCycles x = Check.of(BUSY);
            DeltaCycles y = Check.of(BUSY);
            x.seed(n);
            y.seed(n);
            int time = 0;
            for (int i = 0; i < n; i++) {
                time = y.drift(1);
            }
            Edge.due("drift(" + n + "), as so many alone", x.drift(n), time);
            Edge.due("told(3)", x.told(3), time);
            Edge.same("all is as after so many alone", Seen.now(x), Seen.now(y));
        }
        Edge.says("Promise 16", "OUTSIDE.");
        int[] off = {0, -1, 17, 18, Integer.MIN_VALUE, Integer.MAX_VALUE};
        DeltaCycles z = Check.of(BUSY);
        for (int n : off) {
            Edge.due("drift(" + n + ")", z.drift(n), DeltaCycles.OUTSIDE);
            Edge.due("drift(" + n + ") of nothing", new DeltaCycles().drift(n), DeltaCycles.OUTSIDE);
        }
        Edge.due("no draw", z.seed(0), 0);
        Edge.due("told(3)", z.told(3), 0);
        Edge.due("told(13)", z.told(13), 0);
    }

    private static void seedCall() {
        Edge.says("Promise 20", "THE SEED becomes v (0 .. 2147483647): what it was.");
        DeltaCycles x = new DeltaCycles();
        int was = 0;
        int[] values = {2147483647, 0, 1, 2147483646, 1073741824, 0};
        for (int v : values) {
            Edge.due("seed(" + v + ")", x.seed(v), was);
            was = v;
        }
        Edge.due("told(13): no deed", x.told(13), 0);
        Edge.says("Promise 20", "OUTSIDE.");
        x.seed(41);
        int[] off = {-1, -2, Integer.MIN_VALUE};
        for (int v : off) {
            Edge.due("seed(" + v + ")", x.seed(v), DeltaCycles.OUTSIDE);
            Edge.due("seed(41)", x.seed(41), 41);
        }
    }

    private static void deeds() {
        Edge.says("Section 3 (promise 17)", "UNDONE: the latest deeds (step(), run(), set(), calm(), each of the times BY DRAWS) since the text or IMAGE");
        DeltaCycles x = Check.of(RING);
        Edge.due("told(13)", x.told(13), 0);
        x.step();
        Edge.due("told(13) after step()", x.told(13), 1);
        x.run(1);
        Edge.due("told(13) after run(1) of no STEP", x.told(13), 2);
        x.set(0, 1, 0);
        Edge.due("told(13) after set(0, 1, 0)", x.told(13), 3);
        x.step();
        x.calm();
        Edge.due("told(13) after calm()", x.told(13), 5);
        x.drift(3);
        Edge.due("told(13) after drift(3)", x.told(13), 8);
        x.seed(1);
        x.write(0, 0);
        x.tear();
        x.feed('w');
        x.fault();
        x.told(9);
        Edge.due("told(13): the others are none", x.told(13), 8);
        x.step();
        x.run(0);
        x.set(9, 9, 9);
        x.calm();
        x.calm();
        x.drift(0);
        x.undo(0);
        x.goBack(0);
        int deeds = x.told(13);
        Edge.holds("of the refused ones none is", deeds <= 10);
        x.undo(1);
        Edge.due("told(13): undone is no deed", x.told(13), deeds - 1);
        x.wires();
        Edge.due("told(13): a text with a FAULT leaves them", x.told(13), deeds - 1);
        x.keep(0);
        Edge.due("told(13) after keep(0)", x.told(13), 0);
        DeltaCycles y = Check.of(BUSY);
        y.keep(0);
        y.run(1);
        y.run(1);
        Edge.due("told(13)", y.told(13), 2);
        y.goBack(0);
        Edge.due("told(13) after goBack(0)", y.told(13), 0);
        y.run(1);
        y.keep(5);
        y.goBack(1);
        Edge.due("told(13): images that were refused leave them", y.told(13), 1);
        y.wires();
        Edge.due("told(13) after a text", y.told(13), 0);
    }

    private static void sixteenDeeds() {
        Edge.says("Section 3 (promise 17)", "(16 at most are kept):");
        DeltaCycles x = Check.of("w0;");
        for (int i = 1; i <= 15; i++) {
            x.run(i);
            Edge.due("told(13) of " + i, x.told(13), i);
        }
        x.run(16);
        Edge.due("told(13) of 16", x.told(13), 16);
        Edge.due("undo(16) of 16", x.undo(16), 0);
        Edge.due("told(13)", x.told(13), 0);
        for (int i = 1; i <= 17; i++) {
            x.run(i);
        }
        Edge.due("told(13) of 17", x.told(13), 16);
        Edge.due("undo(16) of 17: the first is not kept", x.undo(16), 1);
        Edge.due("undo(1)", x.undo(1), DeltaCycles.NOT);
        for (int i = 0; i < 50; i++) {
            x.run(2);
        }
        for (int i = 1; i <= 16; i++) {
            Edge.due("undo(1) the " + i + "th time", x.undo(1), 101 - 2 * i);
        }
        Edge.due("undo(1) the 17th time", x.undo(1), DeltaCycles.NOT);
        // as many by draws push all else out
        DeltaCycles y = Check.of("w0;w0;");
        y.run(7);
        y.drift(15);
        Edge.due("told(13)", y.told(13), 16);
        y.drift(1);
        Edge.due("told(13)", y.told(13), 16);
        Edge.due("undo(16): the run stays", y.undo(16), 7);
        Edge.due("undo(1)", y.undo(1), DeltaCycles.NOT);
    }

    /** Deeds of each kind, some of them ENDLESS, in turn; what the call answers. */
    private static int doDeed(DeltaCycles x, int i) {
        switch (i % 5) {
            case 0: return x.set(0, i / 5 % 2, i % 3);
            case 1: return x.step();
            case 2: return x.run(1 + i % 3);
            case 3: return x.drift(1);
            default: return x.calm();
        }
    }

    private static void asAhead() {
        Edge.says("Section 3 (promise 17)", "all but the text, THE BOOK is as ahead of them;");
        String[] texts = {BUSY, RING, "w0;w0;w0;w0;w0;w0;w0;w0;" + "g2 0 0 7 20 0;".repeat(8)};
        for (String text : texts) {
            for (int n = 1; n <= 16; n++) {
                undoneAsAhead(text, n);
            }
        }
        DeltaCycles x = Check.of("w0;w0;");
        x.run(1);
        Check.feed(x, "w3;");
        x.write(0, 1);
        x.run(1);
        x.write(1, 1);
        x.undo(2);
        Edge.due("told(2): the text stays", x.told(2), 3);
        Edge.due("told(11): THE BOOK stays", x.told(11), 2);
        Edge.due("tear()", x.tear(), 2);
        Edge.due("wires()", x.wires(), 1);
    }

    private static void undoneAsAhead(String text, int n) {
        DeltaCycles x = Check.of(text);
        x.seed(n);
        List<String> ahead = new ArrayList<>();
        for (int i = 0; i < 60; i++) {
            String world = Seen.world(x);
            if (!Seen.isRefusal(doDeed(x, i))) {
                ahead.add(world);
            }
        }
        Edge.holds("more than 16 deeds of '" + text + "'", ahead.size() > 16);
        x.undo(n);
        Edge.same("all is as ahead of the last " + n + " of '" + text + "'", Seen.world(x), ahead.get(ahead.size() - n));
        Edge.due("told(13)", x.told(13), 16 - n);
    }

    private static void seedStays() {
        Edge.says("Section 3 (promises 17, 20)", "THE SEED stays.");
        DeltaCycles x = Check.of("w0;w0;");
        x.seed(5);
        x.drift(2);
        Edge.due("undo(2)", x.undo(2), 0);
        Edge.due("the seed after six draws", x.seed(8), after(5, 6));
        x.run(1);
        x.seed(9);
        x.undo(1);
        Edge.due("the seed that was set", x.seed(0), 9);
    }

    private static void undoCall() {
        Edge.says("Promise 17", "The n latest (1 .. 16) are undone: TIME.");
        for (int n = 1; n <= 16; n++) {
            DeltaCycles x = Check.of("w0;");
            for (int i = 1; i <= 16; i++) {
                x.run(i);
            }
            int time = (16 - n) * (17 - n) / 2;
            Edge.due("undo(" + n + ")", x.undo(n), time);
            Edge.due("told(3)", x.told(3), time);
            Edge.due("told(13)", x.told(13), 16 - n);
        }
        Edge.says("Promise 17", "OUTSIDE, NOT: not so many.");
        int[] off = {0, -1, 17, 18, Integer.MIN_VALUE, Integer.MAX_VALUE};
        for (int deeds = 0; deeds <= 16; deeds++) {
            DeltaCycles x = Check.of("w0;");
            for (int i = 0; i < deeds; i++) {
                x.run(3);
            }
            for (int n : off) {
                Edge.due("undo(" + n + ") of " + deeds, x.undo(n), DeltaCycles.OUTSIDE);
            }
            for (int n = deeds + 1; n <= 16; n++) {
                Edge.due("undo(" + n + ") of " + deeds, x.undo(n), DeltaCycles.NOT);
            }
            Edge.due("told(3)", x.told(3), 3 * deeds);
            if (deeds > 0) {
                Edge.due("undo(" + deeds + ") of " + deeds, x.undo(deeds), 0);
            }
        }
    }

    private static void images() {
        Edge.says("Section 3 (promises 21, 22)", "IMAGES 0, 1 keep all this (not the text, THE BOOK), and THE SEED.");
        String[] texts = {BUSY, RING, "w0;w0;w0;w0;w0;w0;w0;w0;" + "g2 0 0 7 20 0;".repeat(8)};
        for (String text : texts) {
            DeltaCycles x = Check.of(text);
            String[] kept = new String[2];
            for (int i = 0; i < 40; i++) {
                doDeed(x, i);
                if (i == 17 || i == 26) {
                    x.seed(i);
                    x.keep(i == 17 ? 0 : 1);
                    kept[i == 17 ? 0 : 1] = Seen.world(x);
                }
            }
            Check.feed(x, "w3;");
            x.write(0, 3);
            for (int times = 0; times < 2; times++) {
                for (int i = 1; i >= 0; i--) {
                    Edge.due("goBack(" + i + ")", x.goBack(i), 1);
                    Edge.same("IMAGE " + i + " of '" + text + "'", Seen.world(x), kept[i]);
                    Edge.due("the seed of IMAGE " + i, x.seed(99), i == 0 ? 17 : 26);
                    x.drift(4);
                    x.run(5);
                }
            }
            Edge.due("told(2): the text stays", x.told(2), 3);
            Edge.due("told(11): THE BOOK stays", x.told(11), 1);
        }
    }

    private static void keepCall() {
        Edge.says("Promise 21", "IMAGE i becomes what is so (nothing can be undone then): 1.");
        for (int i = 0; i < 2; i++) {
            DeltaCycles x = Check.of("w0;w0;");
            x.run(2);
            x.run(3);
            Edge.due("keep(" + i + ")", x.keep(i), 1);
            Edge.due("told(3)", x.told(3), 5);
            Edge.due("told(13)", x.told(13), 0);
            Edge.due("undo(1)", x.undo(1), DeltaCycles.NOT);
            Edge.due("the other one was not kept", x.goBack(1 - i), DeltaCycles.NOT);
            x.run(4);
            Edge.due("keep(" + i + ") anew", x.keep(i), 1);
            x.run(4);
            Edge.due("goBack(" + i + ")", x.goBack(i), 1);
            Edge.due("told(3): the later one", x.told(3), 9);
            DeltaCycles y = new DeltaCycles();
            Edge.due("keep(" + i + ") of nothing", y.keep(i), 1);
            y.run(7);
            Edge.due("goBack(" + i + ") to nothing", y.goBack(i), 1);
            Edge.due("told(3)", y.told(3), 0);
        }
        Edge.says("Promise 21", "UNKNOWN.");
        DeltaCycles z = Check.of("w0;");
        z.run(2);
        int[] off = {-1, 2, 3, Integer.MIN_VALUE, Integer.MAX_VALUE};
        for (int i : off) {
            Edge.due("keep(" + i + ")", z.keep(i), DeltaCycles.UNKNOWN);
            Edge.due("told(13)", z.told(13), 1);
        }
        Edge.due("goBack(0)", z.goBack(0), DeltaCycles.NOT);
        Edge.due("goBack(1)", z.goBack(1), DeltaCycles.NOT);
    }

    private static void goBackCall() {
        Edge.says("Promise 22", "What is so becomes IMAGE i (nothing can be undone then): 1.");
        for (int i = 0; i < 2; i++) {
            DeltaCycles x = Check.of("w0;w0;");
            x.set(1, 3, 9);
            x.keep(i);
            x.run(20);
            x.run(20);
            Edge.due("goBack(" + i + ")", x.goBack(i), 1);
            Edge.due("told(3)", x.told(3), 0);
            Edge.due("told(10)", x.told(10), 1);
            Edge.due("told(13)", x.told(13), 0);
            Edge.due("undo(1)", x.undo(1), DeltaCycles.NOT);
            Edge.due("goBack(" + i + ") at once again", x.goBack(i), 1);
            x.run(9);
            Edge.due("wire(1, 0)", x.wire(1, 0), 3);
            Edge.due("undo(1) of what came then", x.undo(1), 0);
            Edge.due("wire(1, 0)", x.wire(1, 0), 0);
        }
        Edge.says("Promise 22", "UNKNOWN, NOT: it was not kept.");
        DeltaCycles z = Check.of("w0;");
        z.run(2);
        int[] off = {-1, 2, 3, Integer.MIN_VALUE, Integer.MAX_VALUE};
        for (int i : off) {
            Edge.due("goBack(" + i + ")", z.goBack(i), DeltaCycles.UNKNOWN);
        }
        Edge.due("goBack(0)", z.goBack(0), DeltaCycles.NOT);
        Edge.due("goBack(1)", z.goBack(1), DeltaCycles.NOT);
        Edge.due("told(3)", z.told(3), 2);
        Edge.due("told(13)", z.told(13), 1);
        z.keep(1);
        Edge.due("goBack(0)", z.goBack(0), DeltaCycles.NOT);
        Edge.due("goBack(1)", z.goBack(1), 1);
        Check.take(z, "w4;");
        Edge.due("goBack(1) after a text with a FAULT", z.goBack(1), 1);
        Check.take(z, "w0;");
        Edge.due("goBack(1) after the next text", z.goBack(1), DeltaCycles.NOT);
    }
}

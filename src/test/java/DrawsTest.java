/** Promises 16 (drift) and 20 (seed). */
public final class DrawsTest {
    public static void main(String[] args) {
        seeds();
        driftOfFreeWires();
        driftOfDrivenWires();
        driftWhileEndless();
        driftWhileFull();
        refusals();
        Check.end("DrawsTest");
    }

    private static void seeds() {
        DeltaCycles x = Check.of("w0;");
        Check.due("seed(-1)", x.seed(-1), DeltaCycles.OUTSIDE);
        Check.due("seed(least)", x.seed(Integer.MIN_VALUE), DeltaCycles.OUTSIDE);
        Check.due("seed(greatest)", x.seed(Integer.MAX_VALUE), 0);
        Check.due("it was that", x.seed(1), Integer.MAX_VALUE);
        x.drift(1);
        Check.due("after three draws from 1", x.seed(0), 662824084);
        x.drift(1);
        Check.due("after three draws from 0", x.seed(Integer.MAX_VALUE), 654583775);
        x.drift(2);
        Check.due("after six draws from the greatest", x.seed(3), 1849869457);
        Check.due("a seed is no deed", x.told(13), 4);
    }

    /** Of seed 0: wires 0 1 1 0, levels 0 2 1 1, times 13 1 5 4. */
    private static void driftOfFreeWires() {
        DeltaCycles x = Check.of("w3;w3;");
        Check.due("drift(1)", x.drift(1), 13);
        Check.due("wire 0", x.wire(0, 0), 0);
        Check.due("one deed", x.told(13), 1);
        Check.due("drift(3)", x.drift(3), 23);
        Check.due("each of the times is a deed", x.told(13), 4);
        Check.due("wire 0", x.wave(0, 0, 1), 1);
        Check.due("wire 0's time", x.wave(0, 0, 0), 23);
        Check.due("wire 1", x.wave(1, 0, 1), 1);
        Check.due("wire 1's time", x.wave(1, 0, 0), 19);
        Check.due("wire 1 ahead", x.wave(1, 1, 1), 2);
        Check.due("its time", x.wave(1, 1, 0), 14);
        Check.due("the seed then", x.seed(0), 1772930244);
        Check.due("one of the times undone", x.undo(1), 19);
        Check.due("the seed stays", x.seed(5), 0);
    }

    private static void driftOfDrivenWires() {
        DeltaCycles x = Check.of("w0;w0;g0 0 0 1 3 0;");
        Check.due("drift(1): the gate is due ahead", x.drift(1), 3);
        Check.due("one waits by hand", x.told(10), 1);
        Check.due("drift(1): a driven wire is not set", x.drift(1), 13);
        Check.due("none waits by hand", x.told(10), 0);
        Check.due("drift(1): nothing waits, no step", x.drift(1), 13);
        Check.due("it is a deed all the same", x.told(13), 3);
        Check.due("drift(1)", x.drift(1), 17);
        Check.due("wire 0", x.wire(0, 0), 1);
        Check.due("drift(16)'s deeds", x.drift(16) >= 17 ? x.told(13) : -1, 16);
    }

    private static void driftWhileEndless() {
        DeltaCycles x = Check.of("w0;w0;w0;g0 0 0 1 0 0;g0 1 1 2 0 0;g0 2 2 0 0 0;w0;");
        Check.due("drift(1) into it", x.drift(1), 0);
        Check.due("endless", x.told(5), 1);
        x.seed(0);
        Check.due("drift(2)", x.drift(2), 0);
        Check.due("the draws are made", x.seed(0), 1109335178);
        Check.due("deeds", x.told(13), 3);
        Check.due("nothing is set", x.told(10), 0);
        Check.due("no cycle", x.told(4), 40);
        x.undo(2);
        Check.due("endless as ahead", x.told(5), 1);
        x.undo(1);
        Check.due("not endless ahead of all", x.told(5), 0);
    }

    private static void driftWhileFull() {
        DeltaCycles x = Check.of("w0;w3;");
        for (int i = 0; i < 8; i++) {
            x.set(0, 1, 20);
        }
        // the draw (0, 0, 13) finds no room; the step is the one of 20
        Check.due("drift(1)", x.drift(1), 20);
        Check.due("wire 0", x.wire(0, 0), 1);
        Check.due("none waits", x.told(10), 0);
        Check.due("eight cycles", x.told(4), 8);
    }

    private static void refusals() {
        DeltaCycles x = Check.of("w0;");
        int[] off = {0, -1, 17, Integer.MIN_VALUE, Integer.MAX_VALUE};
        for (int n : off) {
            Check.due("drift(" + n + ")", x.drift(n), DeltaCycles.OUTSIDE);
        }
        Check.due("no draw", x.seed(0), 0);
        Check.due("no deed", x.told(13), 0);
        x.drift(16);
        Check.due("sixteen deeds", x.told(13), 16);
    }
}

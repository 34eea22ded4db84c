/** Promises 12 (step), 13 (run), 14 (set), 15 (calm), and the cycles of section 2. */
public final class DeedsTest {
    private static final String RING = "w0;w0;w0;g0 0 0 1 0 0;g0 1 1 2 0 0;g0 2 2 0 0 0;";
    /** Wires 1 and 2 go round without end while wire 0 is 1. */
    private static final String GATED = "w0;w0;w1;w0;g1 0 2 1 0 0;g0 1 1 2 0 0;";

    public static void main(String[] args) {
        steps();
        allWiresAtOnce();
        zeroDelays();
        runs();
        setting();
        settingRefused();
        handOrder();
        endless();
        endlessCountsChanges();
        endlessRun();
        calming();
        refusedChangesNothing();
        Check.end("DeedsTest");
    }

    private static void steps() {
        DeltaCycles x = Check.of("w0;w0;g0 0 0 1 3 0;");
        Check.due("step()", x.step(), 3);
        Check.due("wire 1", x.wire(1, 0), 1);
        Check.due("step() with nothing waiting", x.step(), DeltaCycles.NOT);
        Check.due("is no deed", x.told(13), 1);
        x.set(0, 1, 0);
        Check.due("step() at the same time", x.step(), 3);
        Check.due("step()", x.step(), 6);
        Check.due("wire 1", x.wire(1, 0), 0);
        x.set(0, 3, 20);
        Check.due("step() for what is by hand alone", x.step(), 26);
    }

    private static void allWiresAtOnce() {
        DeltaCycles x = Check.of("w0;w1;g2 0 0 1 1 0;g2 1 1 0 1 0;");
        for (int i = 1; i <= 4; i++) {
            Check.due("step()", x.step(), i);
            Check.due("wire 0", x.wire(0, 0), i % 2);
            Check.due("wire 1", x.wire(1, 0), 1 - i % 2);
            Check.due("cycles", x.told(4), i);
        }
        // loose with 1, then 0 with 1
        DeltaCycles y = Check.of("w1;w0;w2;g4 0 1 2 1 0;g0 1 1 2 2 0;");
        y.step();
        Check.due("loose with loose", y.wire(2, 0), 2);
        y.step();
        Check.due("loose with 1", y.wire(2, 0), 1);
        y.set(1, 1, 0);
        y.set(0, 0, 0);
        Check.due("step()", y.step(), 2);
        Check.due("step()", y.step(), 3);
        Check.due("0 with 1", y.wire(2, 0), 3);
        Check.due("step()", y.step(), 4);
        Check.due("0 with 0", y.wire(2, 0), 0);
    }

    private static void zeroDelays() {
        DeltaCycles x = Check.of("w0;w1;w0;w1;g0 0 0 1 0 0;g0 1 1 2 0 0;g0 2 2 3 0 0;");
        Check.due("step()", x.step(), 0);
        Check.due("one cycle, without a change", x.told(4), 1);
        x.set(0, 1, 2);
        Check.due("step()", x.step(), 2);
        Check.due("four cycles more", x.told(4), 5);
        for (int w = 0; w < 4; w++) {
            Check.due("level of " + w, x.wire(w, 0), 1 - w % 2);
            Check.due("time of " + w, x.wire(w, 3), 2);
            Check.due("changes of " + w, x.wire(w, 2), 1);
        }
    }

    private static void runs() {
        DeltaCycles x = Check.of("w0;g0 0 0 0 4 0;");
        Check.due("run(0)", x.run(0), DeltaCycles.OUTSIDE);
        Check.due("run(201)", x.run(201), DeltaCycles.OUTSIDE);
        Check.due("run(-1)", x.run(-1), DeltaCycles.OUTSIDE);
        Check.due("no deed", x.told(13), 0);
        Check.due("run(3)", x.run(3), 0);
        Check.due("time", x.told(3), 3);
        Check.due("run(1)", x.run(1), 1);
        Check.due("time", x.told(3), 4);
        Check.due("run(10)", x.run(10), 2);
        Check.due("time", x.told(3), 14);
        Check.due("run(200)", x.run(200), 50);
        Check.due("time", x.told(3), 214);
        Check.due("wire 0", x.wire(0, 2), 53);
        Check.due("four deeds", x.told(13), 4);
        DeltaCycles y = Check.of("w0;g0 0 0 0 1 0;w0;");
        y.set(1, 1, 0);
        Check.due("a step at each time, the first one's too", y.run(200), 201);
        DeltaCycles z = Check.of("w0;");
        Check.due("run with nothing waiting", z.run(9), 0);
        Check.due("its time", z.told(3), 9);
    }

    private static void setting() {
        DeltaCycles x = Check.of("w0;w3;");
        Check.due("set now", x.set(0, 1, 0), 1);
        Check.due("set latest", x.set(1, 2, 20), 2);
        Check.due("not set yet", x.wire(0, 0), 0);
        Check.due("step()", x.step(), 0);
        Check.due("set then", x.wire(0, 0), 1);
        Check.due("one waits", x.told(10), 1);
        x.run(10);
        Check.due("set from the time on", x.set(0, 3, 11), 2);
        Check.due("step()", x.step(), 20);
        Check.due("wire 1", x.wire(1, 0), 2);
        Check.due("wire 0 keeps what it was set to", x.wire(0, 0), 1);
        Check.due("step()", x.step(), 21);
        Check.due("wire 0", x.wire(0, 0), 3);
    }

    private static void settingRefused() {
        DeltaCycles x = Check.of("w0;w0;g0 0 0 1 1 0;");
        Check.due("set(-1, 0, 0)", x.set(-1, 0, 0), DeltaCycles.UNKNOWN);
        Check.due("set(2, 0, 99)", x.set(2, 0, 99), DeltaCycles.UNKNOWN);
        Check.due("set(0, 4, 0)", x.set(0, 4, 0), DeltaCycles.UNKNOWN);
        Check.due("set(0, -1, 21)", x.set(0, -1, 21), DeltaCycles.UNKNOWN);
        Check.due("set(1, 4, 0)", x.set(1, 4, 0), DeltaCycles.UNKNOWN);
        Check.due("set(0, 0, 21)", x.set(0, 0, 21), DeltaCycles.OUTSIDE);
        Check.due("set(1, 0, -1)", x.set(1, 0, -1), DeltaCycles.OUTSIDE);
        Check.due("set(1, 0, 0)", x.set(1, 0, 0), DeltaCycles.NOT);
        Check.due("nothing waits by hand", x.told(10), 0);
        Check.due("no deed", x.told(13), 0);
        for (int i = 1; i <= 8; i++) {
            Check.due("set(0, 1, 20)", x.set(0, 1, 20), i);
        }
        Check.due("a ninth", x.set(0, 1, 20), DeltaCycles.FULL);
        Check.due("a ninth, driven", x.set(1, 1, 20), DeltaCycles.NOT);
        Check.due("a ninth, too late", x.set(0, 1, 21), DeltaCycles.OUTSIDE);
        Check.due("eight wait", x.told(10), 8);
    }

    private static void handOrder() {
        DeltaCycles x = Check.of("w0;w0;");
        x.set(0, 1, 5);
        x.set(0, 2, 3);
        x.set(0, 3, 5);
        x.set(0, 3, 3);
        x.set(0, 1, 3);
        x.set(1, 1, 4);
        Check.due("step()", x.step(), 3);
        Check.due("one a cycle", x.told(4), 3);
        Check.due("the last one of 3", x.wave(0, 0, 1), 1);
        Check.due("ahead of it", x.wave(0, 1, 1), 3);
        Check.due("the first one of 3", x.wave(0, 2, 1), 2);
        Check.due("step()", x.step(), 4);
        Check.due("step()", x.step(), 5);
        Check.due("the last one of 5", x.wire(0, 0), 3);
        Check.due("two cycles at 5, the first without a change", x.told(4), 6);
        Check.due("changes", x.wire(0, 2), 4);
        x.set(0, 1, 2);
        x.run(1);
        x.set(0, 2, 1);
        Check.due("set later for the same time", x.step(), 7);
        Check.due("comes behind", x.wire(0, 0), 2);
        DeltaCycles y = Check.of("w0;w0;w0;");
        y.set(2, 3, 6);
        y.set(1, 1, 4);
        y.set(0, 2, 2);
        y.step();
        Check.due("the earliest is wire 0", y.wire(0, 0), 2);
        Check.due("not wire 1", y.wire(1, 0), 0);
        y.step();
        Check.due("then wire 1", y.wire(1, 0), 1);
        Check.due("not wire 2", y.wire(2, 0), 0);
        y.step();
        Check.due("then wire 2", y.wire(2, 0), 3);
    }

    private static void endless() {
        DeltaCycles x = Check.of(RING);
        x.run(1);
        Check.due("it is endless", x.told(5), 1);
        Check.due("the 40th cycle ends it", x.told(4), 40);
        Check.due("all wires changed in it", x.wire(0, 2), 40);
        Check.due("the time is that", x.told(3), 0);
        Check.due("still", x.told(6), 1);
        Check.due("settles", x.told(9), DeltaCycles.NONE);
        Check.due("all flicker", x.told(8), 7);
        Check.due("step()", x.step(), DeltaCycles.NOT);
        Check.due("run(5)", x.run(5), DeltaCycles.NOT);
        Check.due("run(0)", x.run(0), DeltaCycles.OUTSIDE);
        Check.due("one deed", x.told(13), 1);
        DeltaCycles y = Check.of(GATED);
        y.run(4);
        y.set(3, 2, 1);
        y.set(0, 1, 2);
        y.set(3, 1, 2);
        y.set(3, 1, 9);
        Check.due("step() ahead of it", y.step(), 5);
        Check.due("step() into it", y.step(), 6);
        Check.due("it is endless", y.told(5), 1);
        Check.due("nothing waits by hand", y.told(10), 0);
        Check.due("nor for gate 0", y.gate(0, 8), 0);
        Check.due("nor for gate 1", y.gate(1, 8), 0);
        Check.due("set(3, 1, 1)", y.set(3, 1, 1), DeltaCycles.NOT);
        Check.due("set(3, 1, 21)", y.set(3, 1, 21), DeltaCycles.OUTSIDE);
        Check.due("what was set then", y.wire(3, 0), 1);
    }

    /** Only cycles in which a wire changes count up to the 40th. */
    private static void endlessCountsChanges() {
        DeltaCycles x = Check.of(GATED);
        x.step();
        int cycles = x.told(4);
        x.set(3, 0, 0);
        x.set(3, 0, 0);
        x.set(0, 1, 0);
        x.step();
        Check.due("it is endless", x.told(5), 1);
        Check.due("40 cycles with a change, two without", x.told(4) - cycles, 42);
        // a step's count begins anew: 30 changes by steps at one time are not endless
        DeltaCycles y = Check.of("w0;");
        for (int i = 1; i <= 60; i++) {
            y.set(0, i % 2, 0);
            y.step();
        }
        Check.due("not endless", y.told(5), 0);
        Check.due("changes at time 0", y.wire(0, 2), 60);
    }

    private static void endlessRun() {
        DeltaCycles x = Check.of(GATED);
        x.set(3, 1, 3);
        x.set(0, 1, 7);
        x.set(3, 0, 8);
        Check.due("run(50) ends as it becomes endless", x.run(50), 3);
        Check.due("its time", x.told(3), 7);
        Check.due("endless", x.told(5), 1);
        Check.due("the later one is gone", x.told(10), 0);
    }

    private static void calming() {
        DeltaCycles x = Check.of(GATED);
        Check.due("calm() ahead", x.calm(), DeltaCycles.NOT);
        x.run(4);
        x.set(0, 1, 2);
        x.step();
        int deeds = x.told(13);
        Check.due("calm()", x.calm(), 6);
        Check.due("a deed", x.told(13), deeds + 1);
        Check.due("not endless", x.told(5), 0);
        Check.due("not still", x.told(6), 0);
        Check.due("gate 0 is told", x.gate(0, 8), 1);
        Check.due("at this time", x.queue(0, 0, 0), 6);
        Check.due("what comes", x.queue(0, 0, 1), x.gate(0, 7));
        Check.due("gate 1 is told", x.gate(1, 8), 1);
        Check.due("calm() again", x.calm(), DeltaCycles.NOT);
        Check.due("set(0, 0, 0)", x.set(0, 0, 0), 1);
        Check.due("step()", x.step(), 6);
        Check.due("it has an end now", x.told(5), 0);
        Check.due("and is still", x.told(6), 1);
        Check.due("wire 1", x.wire(1, 0), 0);
        Check.due("wire 2", x.wire(2, 0), 1);
    }

    private static void refusedChangesNothing() {
        DeltaCycles x = Check.of(RING);
        x.step();
        for (int i = 0; i < 3; i++) {
            x.step();
            x.run(3);
            x.set(0, 0, 0);
            x.undo(5);
            x.goBack(0);
            x.drift(0);
        }
        Check.due("time", x.told(3), 0);
        Check.due("cycles", x.told(4), 40);
        Check.due("one deed", x.told(13), 1);
        Check.due("the seed", x.seed(0), 0);
    }
}

/** Promises 21 (keep) and 22 (goBack). */
public final class ImagesTest {
    public static void main(String[] args) {
        refusals();
        twoImages();
        seedIsKept();
        nothingCanBeUndone();
        endlessIsKept();
        laterDeedsLeaveIt();
        Check.end("ImagesTest");
    }

    private static void refusals() {
        DeltaCycles x = Check.of("w0;");
        x.run(3);
        int[] off = {-1, 2, Integer.MIN_VALUE, Integer.MAX_VALUE};
        for (int i : off) {
            Check.due("keep(" + i + ")", x.keep(i), DeltaCycles.UNKNOWN);
            Check.due("goBack(" + i + ")", x.goBack(i), DeltaCycles.UNKNOWN);
        }
        Check.due("goBack(0)", x.goBack(0), DeltaCycles.NOT);
        Check.due("refused, it can be undone", x.told(13), 1);
        Check.due("keep(0)", x.keep(0), 1);
        Check.due("goBack(1)", x.goBack(1), DeltaCycles.NOT);
        Check.due("goBack(0)", x.goBack(0), 1);
    }

    private static void twoImages() {
        DeltaCycles x = Check.of("w0;w1;g0 0 0 1 3 0;");
        x.set(0, 1, 2);
        Check.due("keep(0)", x.keep(0), 1);
        x.run(10);
        Check.due("keep(1)", x.keep(1), 1);
        x.set(0, 0, 0);
        x.run(10);
        Check.due("wire 1", x.wire(1, 0), 1);
        Check.due("goBack(0)", x.goBack(0), 1);
        Check.due("time", x.told(3), 0);
        Check.due("one waits by hand", x.told(10), 1);
        Check.due("its gate's queue", x.queue(0, 0, 0), 3);
        Check.due("no change", x.wire(0, 3), DeltaCycles.NONE);
        Check.due("goBack(1)", x.goBack(1), 1);
        Check.due("time", x.told(3), 10);
        Check.due("wire 1", x.wire(1, 0), 0);
        Check.due("its change", x.wire(1, 3), 5);
        Check.due("its wave", x.wave(1, 0, 1), 0);
        Check.due("keep(0) anew", x.keep(0), 1);
        x.run(1);
        x.goBack(0);
        Check.due("time", x.told(3), 10);
    }

    private static void seedIsKept() {
        DeltaCycles x = Check.of("w0;w0;");
        x.seed(42);
        x.keep(1);
        int first = x.drift(5);
        int seed = x.seed(7);
        x.goBack(1);
        Check.due("the same draws again", x.drift(5), first);
        Check.due("and the same seed", x.seed(7), seed);
        x.goBack(1);
        Check.due("the image's seed", x.seed(0), 42);
    }

    private static void nothingCanBeUndone() {
        DeltaCycles x = Check.of("w0;");
        x.run(1);
        x.run(1);
        x.keep(0);
        Check.due("undo after keep", x.undo(1), DeltaCycles.NOT);
        Check.due("none can be undone", x.told(13), 0);
        x.run(1);
        Check.due("undo of what came then", x.undo(1), 2);
        x.run(1);
        x.goBack(0);
        Check.due("undo after goBack", x.undo(1), DeltaCycles.NOT);
        Check.due("none can be undone", x.told(13), 0);
    }

    private static void endlessIsKept() {
        DeltaCycles x = Check.of("w0;w0;g0 0 0 1 0 0;g0 1 1 0 0 0;");
        x.step();
        Check.due("endless", x.told(5), 1);
        x.keep(0);
        x.calm();
        x.goBack(0);
        Check.due("endless again", x.told(5), 1);
        Check.due("flicker", x.told(8), 3);
        Check.due("cycles", x.told(4), 40);
        Check.due("calm()", x.calm(), 0);
    }

    private static void laterDeedsLeaveIt() {
        DeltaCycles x = Check.of("w0;w0;g2 0 0 1 6 0;");
        x.set(0, 1, 1);
        x.keep(0);
        x.feed('w');
        for (int i = 0; i < 3; i++) {
            Check.due("levels ahead", x.wire(0, 0) * 10 + x.wire(1, 0), 0);
            x.run(20);
            Check.due("levels then", x.wire(0, 0) * 10 + x.wire(1, 0), 11);
            Check.due("goBack(0)", x.goBack(0), 1);
        }
        Check.due("the text is not the image's", x.told(2), 1);
    }
}

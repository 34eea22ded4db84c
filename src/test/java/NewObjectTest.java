/** Promise 1: a new object has nothing. */
public final class NewObjectTest {
    public static void main(String[] args) {
        nothingIsTold();
        nothingIsThere();
        deedsOnNothing();
        objectsAreApart();
        Check.end("NewObjectTest");
    }

    private static void nothingIsTold() {
        DeltaCycles x = new DeltaCycles();
        int[] due = {0, 0, 0, 0, 0, 0, 1, 0, 0, 0, 0, 0, DeltaCycles.NONE, 0};
        for (int what = 0; what < due.length; what++) {
            Check.due("told(" + what + ") of a new object", x.told(what), due[what]);
        }
        Check.due("fault() of a new object", x.fault(), DeltaCycles.NONE);
        Check.due("seed(5) of a new object", x.seed(5), 0);
    }

    private static void nothingIsThere() {
        DeltaCycles x = new DeltaCycles();
        Check.due("wire(0, 0)", x.wire(0, 0), DeltaCycles.UNKNOWN);
        Check.due("wave(0, 0, 0)", x.wave(0, 0, 0), DeltaCycles.UNKNOWN);
        Check.due("gate(0, 0)", x.gate(0, 0), DeltaCycles.UNKNOWN);
        Check.due("queue(0, 0, 0)", x.queue(0, 0, 0), DeltaCycles.UNKNOWN);
        Check.due("set(0, 0, 0)", x.set(0, 0, 0), DeltaCycles.UNKNOWN);
        Check.due("write(0, 0)", x.write(0, 0), DeltaCycles.UNKNOWN);
        Check.due("step()", x.step(), DeltaCycles.NOT);
        Check.due("calm()", x.calm(), DeltaCycles.NOT);
        Check.due("undo(1)", x.undo(1), DeltaCycles.NOT);
        Check.due("goBack(0)", x.goBack(0), DeltaCycles.NOT);
        Check.due("goBack(1)", x.goBack(1), DeltaCycles.NOT);
        Check.due("tear()", x.tear(), 0);
    }

    private static void deedsOnNothing() {
        DeltaCycles x = new DeltaCycles();
        Check.due("run(7) with no wires", x.run(7), 0);
        Check.due("its time", x.told(3), 7);
        Check.due("a run is a deed", x.told(13), 1);
        Check.due("drift(3) with no wires", x.drift(3), 7);
        Check.due("draws nothing", x.seed(0), 0);
        Check.due("and is no deed", x.told(13), 1);
        Check.due("wires() of no text", x.wires(), 0);
        Check.due("begins anew", x.told(3), 0);
        Check.due("with nothing to undo", x.told(13), 0);
        Check.due("and no fault", x.fault(), DeltaCycles.NONE);
    }

    private static void objectsAreApart() {
        DeltaCycles x = Check.of("w1;w2;");
        DeltaCycles y = Check.of("w3;");
        x.feed('w');
        x.seed(9);
        x.run(4);
        Check.due("another's text", y.told(2), 0);
        Check.due("another's seed", y.seed(1), 0);
        Check.due("another's time", y.told(3), 0);
        Check.due("another's level", y.wire(0, 0), 3);
    }
}

/** Promises 5 (told), 6 (wire), 7 (wave), 8 (gate), 9 (queue). */
public final class AskedTest {
    public static void main(String[] args) {
        refusals();
        tellings();
        looking();
        without();
        waves();
        flicker();
        settling();
        mostCycles();
        mostChanges();
        askingChangesNothing();
        Check.end("AskedTest");
    }

    private static void refusals() {
        DeltaCycles x = Check.of("w0;w1;g0 0 0 1 2 0;");
        int[] off = {-1, Integer.MIN_VALUE, Integer.MAX_VALUE, 200};
        for (int v : off) {
            Check.due("told(" + v + ")", x.told(v), DeltaCycles.OUTSIDE);
            Check.due("wire(" + v + ", 9)", x.wire(v, 9), DeltaCycles.UNKNOWN);
            Check.due("wire(0, " + v + ")", x.wire(0, v), DeltaCycles.OUTSIDE);
            Check.due("wave(" + v + ", 0, 9)", x.wave(v, 0, 9), DeltaCycles.UNKNOWN);
            Check.due("wave(0, 0, " + v + ")", x.wave(0, 0, v), DeltaCycles.OUTSIDE);
            Check.due("wave(0, " + v + ", 0)", x.wave(0, v, 0), DeltaCycles.NONE);
            Check.due("wave(0, " + v + ", 2)", x.wave(0, v, 2), DeltaCycles.OUTSIDE);
            Check.due("gate(" + v + ", 99)", x.gate(v, 99), DeltaCycles.UNKNOWN);
            Check.due("gate(0, " + v + ")", x.gate(0, v), DeltaCycles.OUTSIDE);
            Check.due("queue(" + v + ", 0, 9)", x.queue(v, 0, 9), DeltaCycles.UNKNOWN);
            Check.due("queue(0, 0, " + v + ")", x.queue(0, 0, v), DeltaCycles.OUTSIDE);
            Check.due("queue(0, " + v + ", 1)", x.queue(0, v, 1), DeltaCycles.NONE);
            Check.due("queue(0, " + v + ", 2)", x.queue(0, v, 2), DeltaCycles.OUTSIDE);
        }
        Check.due("told(14)", x.told(14), DeltaCycles.OUTSIDE);
        Check.due("wire(2, 0)", x.wire(2, 0), DeltaCycles.UNKNOWN);
        Check.due("wire(0, 5)", x.wire(0, 5), DeltaCycles.OUTSIDE);
        Check.due("gate(1, 0)", x.gate(1, 0), DeltaCycles.UNKNOWN);
        Check.due("gate(0, 10)", x.gate(0, 10), DeltaCycles.OUTSIDE);
    }

    private static void tellings() {
        // gate 0 holds (1 of 0), gate 1 does not (drives 3, 0 comes)
        DeltaCycles x = Check.of("w0;w1;w3;g0 0 0 1 4 0;g1 0 1 2 6 0;");
        x.feed('w');
        x.feed('x');
        x.set(0, 0, 9);
        x.write(2, 3);
        int[] due = {3, 2, 2, 0, 0, 0, 0, 1, 0, 3, 1, 1, DeltaCycles.NONE, 1};
        for (int what = 0; what < due.length; what++) {
            Check.due("told(" + what + ")", x.told(what), due[what]);
        }
        Check.due("step() to 4", x.step(), 4);
        Check.due("cycles count without a change, too", x.told(4), 1);
        Check.due("settles", x.told(9), 2);
        Check.due("step() to 6", x.step(), 6);
        Check.due("both hold", x.told(7), 3);
        Check.due("the book is wrong now", x.told(12), 0);
        Check.due("not still: one waits by hand", x.told(6), 0);
        Check.due("step() to 9", x.step(), 9);
        Check.due("still", x.told(6), 1);
        Check.due("settles in none", x.told(9), 0);
        Check.due("none by hand", x.told(10), 0);
        Check.due("changes of wire 2", x.wire(2, 2), 1);
        Check.due("the last one's time", x.wire(2, 3), 6);
        Check.due("changes of wire 0", x.wire(0, 2), 0);
        Check.due("which had none", x.wire(0, 3), DeltaCycles.NONE);
    }

    private static void looking() {
        DeltaCycles x = Check.of("w0;w0;w0;g1 0 0 2 1 0;g0 0 1 2 1 0;g3 1 0 2 1 0;");
        Check.due("gates that look at wire 0", x.wire(0, 4), 3);
        Check.due("gates that look at wire 1", x.wire(1, 4), 1);
        Check.due("gates that look at wire 2", x.wire(2, 4), 0);
        Check.due("gates that drive wire 0", x.wire(0, 1), 0);
        Check.due("gates that drive wire 2", x.wire(2, 1), 3);
        Check.due("B of a gate of kind 0", x.gate(1, 2), 1);
    }

    private static void without() {
        // three drive wire 2: through of 0, through of 1, the other way round of wire 0
        DeltaCycles x = Check.of("w0;w1;w2;w3;g4 0 1 2 1 0;g4 1 1 2 2 0;g4 1 0 2 3 0;g0 0 0 3 1 0;");
        Check.due("all drive loose: without one it is", x.gate(0, 9), 2);
        x.step();
        Check.due("gate 0 drives 0", x.gate(0, 6), 0);
        Check.due("wire 2 is 0", x.wire(2, 0), 0);
        Check.due("without gate 0 it is loose", x.gate(0, 9), 2);
        Check.due("without gate 1 it is 0", x.gate(1, 9), 0);
        x.step();
        Check.due("gate 1 drives 1", x.gate(1, 6), 1);
        Check.due("wire 2 is unsure", x.wire(2, 0), 3);
        Check.due("without gate 0 it is 1", x.gate(0, 9), 1);
        Check.due("without gate 1 it is 0", x.gate(1, 9), 0);
        Check.due("without gate 2 it is unsure", x.gate(2, 9), 3);
        Check.due("with none else it is loose", x.gate(3, 9), 2);
    }

    private static void waves() {
        DeltaCycles x = Check.of("w0;w0;");
        for (int i = 1; i <= 10; i++) {
            x.set(0, i % 2, i % 3);
            x.step();
        }
        // times: 1 3 3 4 6 6 7 9 9 10
        int[] time = {10, 9, 9, 7, 6, 6, 4, 3};
        for (int k = 0; k < 8; k++) {
            Check.due("wave(0, " + k + ", 0)", x.wave(0, k, 0), time[k]);
            Check.due("wave(0, " + k + ", 1)", x.wave(0, k, 1), k % 2);
        }
        Check.due("wave(0, 8, 0)", x.wave(0, 8, 0), DeltaCycles.NONE);
        Check.due("wave(0, 8, 1)", x.wave(0, 8, 1), DeltaCycles.NONE);
        Check.due("changes", x.wire(0, 2), 10);
        Check.due("the last one", x.wire(0, 3), 10);
        x.set(1, 3, 2);
        x.run(5);
        Check.due("wave(1, 0, 0)", x.wave(1, 0, 0), 12);
        Check.due("wave(1, 0, 1)", x.wave(1, 0, 1), 3);
        Check.due("wave(1, 1, 0)", x.wave(1, 1, 0), DeltaCycles.NONE);
    }

    private static void flicker() {
        DeltaCycles x = Check.of("w0;w0;w0;");
        x.set(0, 1, 1);
        x.set(0, 0, 1);
        x.set(1, 1, 1);
        x.set(1, 1, 1);
        Check.due("none flickers ahead", x.told(8), 0);
        x.step();
        Check.due("wire 0 changed twice at 1, wire 1 once", x.told(8), 1);
        x.set(2, 3, 2);
        x.step();
        x.set(2, 1, 0);
        Check.due("no flicker of wire 2 yet", x.told(8), 1);
        Check.due("a second step at the same time", x.step(), 3);
        Check.due("wire 2 flickers, over two steps", x.told(8), 5);
        x.run(100);
        Check.due("ever", x.told(8), 5);
    }

    /** Wire 6 goes to and fro while wire 5 is 1; wire 0 as 0 comes to wire 5 only 98 later. */
    private static void settling() {
        String text = "w1;w1;w1;w1;w1;w1;w0;g2 0 0 1 20 0;g2 1 1 2 20 0;g2 2 2 3 20 0;g2 3 3 4 20 0;g2 4 4 5 18 0;g3 5 6 6 1 0;";
        DeltaCycles x = Check.of(text);
        Check.due("it never ends by itself", x.told(9), DeltaCycles.NONE);
        x.set(0, 0, 1);
        Check.due("it ends in 100", x.told(9), 100);
        x.undo(1);
        x.set(0, 0, 2);
        Check.due("it ends in 101", x.told(9), DeltaCycles.NONE);
        x.step();
        for (int left = 100; left > 0; left--) {
            Check.due("it ends in " + left, x.told(9), left);
            Check.due("step()", x.step(), 102 - left);
        }
        Check.due("it has ended", x.told(9), 0);
        Check.due("step()", x.step(), DeltaCycles.NOT);
    }

    private static void mostCycles() {
        StringBuilder text = new StringBuilder("w0;w0;w0;w0;w0;w0;w0;w0;g0 0 0 0 1 0;");
        for (int w = 0; w < 7; w++) {
            text.append("g0 ").append(w).append(' ').append(w).append(' ').append(w + 1).append(" 0 0;");
        }
        DeltaCycles x = Check.of(text.toString());
        x.run(200);
        int once = x.told(4);
        int before = once;
        for (int i = 1; i < 60; i++) {
            x.run(200);
            before = x.told(4);
        }
        Check.due("cycles of 60 runs", before, once + 59 * 1600);
        for (int i = 0; i < 5; i++) {
            x.run(200);
        }
        Check.due("cycles at most", x.told(4), 99999);
    }

    private static void mostChanges() {
        DeltaCycles x = Check.of("w0;g0 0 0 0 1 0;");
        for (int i = 1; i < 50; i++) {
            x.run(200);
        }
        Check.due("changes", x.wire(0, 2), 9800);
        x.run(199);
        Check.due("changes", x.wire(0, 2), 9999);
        x.run(10);
        Check.due("changes at most", x.wire(0, 2), 9999);
        Check.due("the last one goes on", x.wire(0, 3), 10009);
        Check.due("and the wave", x.wave(0, 0, 0), 10009);
        Check.due("its level", x.wave(0, 0, 1), 1);
        Check.due("its eighth", x.wave(0, 7, 0), 10002);
    }

    private static void askingChangesNothing() {
        DeltaCycles x = Check.of("w0;w0;w0;g0 0 0 1 0 0;g0 1 1 2 0 0;g0 2 2 0 0 0;");
        for (int i = 0; i < 3; i++) {
            Check.due("it would be endless", x.told(9), DeltaCycles.NONE);
            Check.due("but is not yet", x.told(5), 0);
            Check.due("no cycle", x.told(4), 0);
            Check.due("no change", x.wire(0, 2), 0);
            Check.due("its queue is as it was", x.gate(0, 8), 1);
            Check.due("no deed", x.told(13), 0);
        }
    }
}

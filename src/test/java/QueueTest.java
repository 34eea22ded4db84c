/** Section 2: what a gate holds on to, as queue() and gate() tell it. */
public final class QueueTest {
    public static void main(String[] args) {
        begun();
        holdsOnToAll();
        forgets();
        alikeStay();
        sameTimeIsOvertaken();
        eightAtMost();
        eightGates();
        Check.end("QueueTest");
    }

    /** Times and levels, in turn. */
    private static void queueIs(String when, DeltaCycles x, int g, int... due) {
        Check.due("gate(" + g + ", 8) " + when, x.gate(g, 8), due.length / 2);
        for (int k = 0; k < due.length / 2; k++) {
            Check.due("queue(" + g + ", " + k + ", 0) " + when, x.queue(g, k, 0), due[2 * k]);
            Check.due("queue(" + g + ", " + k + ", 1) " + when, x.queue(g, k, 1), due[2 * k + 1]);
        }
        Check.due("behind it " + when, x.queue(g, due.length / 2, 0), DeltaCycles.NONE);
    }

    private static void begun() {
        DeltaCycles x = Check.of("w0;w1;w2;g0 0 0 2 0 0;g1 0 1 2 20 1;g4 1 2 0 7 0;");
        queueIs("at first", x, 0, 0, 1);
        queueIs("at first", x, 1, 20, 0);
        queueIs("at first", x, 2, 7, 3);
        Check.due("nothing has happened yet", x.told(4), 0);
        Check.due("wire 2 is as told", x.wire(2, 0), 2);
    }

    private static DeltaCycles thrice(int mode) {
        DeltaCycles x = Check.of("w0;w0;g2 0 0 1 5 " + mode + ";");
        x.set(0, 1, 1);
        x.set(0, 0, 2);
        x.set(0, 1, 3);
        return x;
    }

    private static void holdsOnToAll() {
        DeltaCycles x = thrice(0);
        queueIs("at 0", x, 0, 5, 0);
        x.step();
        queueIs("at 1", x, 0, 5, 0, 6, 1);
        x.step();
        queueIs("at 2", x, 0, 5, 0, 6, 1, 7, 0);
        x.step();
        queueIs("at 3", x, 0, 5, 0, 6, 1, 7, 0, 8, 1);
        Check.due("run(20)", x.run(20), 4);
        Check.due("changes of wire 1", x.wire(1, 2), 3);
        queueIs("at 23", x, 0);
    }

    private static void forgets() {
        DeltaCycles x = thrice(1);
        x.step();
        queueIs("at 1", x, 0, 6, 1);
        x.step();
        queueIs("at 2", x, 0, 7, 0);
        x.step();
        queueIs("at 3", x, 0, 8, 1);
        Check.due("run(20)", x.run(20), 1);
        Check.due("changes of wire 1", x.wire(1, 2), 1);
    }

    private static void alikeStay() {
        // and: wire 1 stays 0, so 0 comes each time that wire 0 changes
        DeltaCycles x = Check.of("w0;w0;w0;g1 0 1 2 9 1;");
        x.set(0, 1, 1);
        x.set(0, 3, 2);
        x.set(0, 1, 3);
        x.set(1, 1, 4);
        x.set(1, 3, 5);
        x.set(0, 3, 6);
        x.run(3);
        queueIs("at 3", x, 0, 9, 0, 10, 0, 11, 0, 12, 0);
        x.step();
        queueIs("at 4", x, 0, 13, 1);
        x.step();
        queueIs("at 5", x, 0, 14, 3);
        x.step();
        queueIs("at 6", x, 0, 14, 3, 15, 3);
    }

    private static void sameTimeIsOvertaken() {
        for (int mode = 0; mode < 2; mode++) {
            DeltaCycles x = Check.of("w0;w0;g0 0 0 1 5 " + mode + ";");
            x.set(0, 1, 1);
            x.set(0, 0, 1);
            x.step();
            Check.due("two cycles", x.told(4), 2);
            queueIs("in mode " + mode, x, 0, mode == 0 ? new int[] {5, 1, 6, 1} : new int[] {6, 1});
        }
        // the only one in a queue is overtaken, too
        DeltaCycles z = Check.of("w0;w0;g2 0 0 1 5 0;");
        z.run(6);
        z.set(0, 1, 1);
        z.set(0, 3, 1);
        z.step();
        queueIs("told twice at 7", z, 0, 12, 3);
        // told at once anew: what is due at the same time goes, the rest stays
        DeltaCycles x = Check.of("w0;w0;g2 0 0 1 0 0;");
        queueIs("told at 0", x, 0, 0, 0);
        x.set(0, 1, 0);
        Check.due("step()", x.step(), 0);
        Check.due("cycles", x.told(4), 2);
        Check.due("wire 1 follows at once", x.wire(1, 0), 1);
        queueIs("then", x, 0);
    }

    /** The last of eight gates is as the first of one. */
    private static void eightGates() {
        DeltaCycles x = Check.of("w0;w0;w0;w0;w0;w0;w0;w0;" + "g2 0 0 7 20 0;".repeat(8));
        for (int i = 1; i <= 8; i++) {
            x.set(0, i % 2, i);
        }
        x.run(9);
        for (int g = 0; g < 8; g++) {
            queueIs("of gate " + g, x, g, 21, 1, 22, 0, 23, 1, 24, 0, 25, 1, 26, 0, 27, 1, 28, 0);
        }
        Check.due("all hold", x.told(7), 255);
        Check.due("run(14)", x.run(14), 3);
        Check.due("none holds", x.told(7), 0);
        for (int g = 0; g < 8; g++) {
            queueIs("of gate " + g, x, g, 24, 0, 25, 1, 26, 0, 27, 1, 28, 0);
        }
        Check.due("gates of the next text", Check.take(x, "w1;w1;g2 0 0 1 20 0;") == 2 ? x.told(1) : -1, 1);
        Check.due("which holds alone", x.told(7), 1);
        Check.due("and is driven alone", x.gate(0, 9), 2);
    }

    private static void eightAtMost() {
        DeltaCycles x = Check.of("w0;w0;g2 0 0 1 20 0;");
        for (int i = 1; i <= 8; i++) {
            x.set(0, i % 2, i);
        }
        x.run(7);
        queueIs("of eight", x, 0, 20, 0, 21, 1, 22, 0, 23, 1, 24, 0, 25, 1, 26, 0, 27, 1);
        x.step();
        queueIs("of nine", x, 0, 21, 1, 22, 0, 23, 1, 24, 0, 25, 1, 26, 0, 27, 1, 28, 0);
        x.set(0, 1, 1);
        x.set(0, 1, 2);
        x.step();
        x.step();
        queueIs("of ten", x, 0, 22, 0, 23, 1, 24, 0, 25, 1, 26, 0, 27, 1, 28, 0, 29, 1);
        // mode 1, alike: the first one goes, too
        DeltaCycles y = Check.of("w0;w0;w0;g1 0 1 2 20 1;");
        for (int i = 1; i <= 8; i++) {
            y.set(0, i % 2, i);
        }
        y.run(8);
        queueIs("of nine alike", y, 0, 21, 0, 22, 0, 23, 0, 24, 0, 25, 0, 26, 0, 27, 0, 28, 0);
    }
}

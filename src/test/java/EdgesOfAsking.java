/** The edges of what is asked: section 3 up to the book, and promises 5 to 9, 18 and 19. */
final class EdgesOfAsking {
    private static final int[] FAR = {-2, -1, 8, 9, 100, Integer.MIN_VALUE, Integer.MAX_VALUE};
    /** Wire 6 goes to and fro while wire 5 is 1; a 0 of wire 0 comes to wire 5 only 98 later. */
    private static final String SLOW_END = "w1;w1;w1;w1;w1;w1;w0;g2 0 0 1 20 0;g2 1 1 2 20 0;g2 2 2 3 20 0;g2 3 3 4 20 0;g2 4 4 5 18 0;g3 5 6 6 1 0;";

    private EdgesOfAsking() {
    }

    static void all() {
        fromZeroOn();
        sets();
        toldCall();
        mostCycles();
        toldRefused();
        still();
        holds();
        without();
        settles();
        wireCall();
        waveCall();
        gateCall();
        queueCall();
        bookAtMost();
        wrong();
        writeCall();
        tearCall();
    }

    private static void fromZeroOn() {
        Edge.says("Terms", "What has a number has it from 0 on.");
        DeltaCycles x = Check.of("w3;w1;g0 1 1 0 4 0;");
        Edge.due("wire(0, 0) is the first", x.wire(0, 0), 3);
        Edge.due("wire(1, 0) is the second", x.wire(1, 0), 1);
        Edge.due("wire(2, 0)", x.wire(2, 0), DeltaCycles.UNKNOWN);
        Edge.due("wire(-1, 0)", x.wire(-1, 0), DeltaCycles.UNKNOWN);
        Edge.due("gate(0, 4) is the first", x.gate(0, 4), 4);
        Edge.due("gate(1, 4)", x.gate(1, 4), DeltaCycles.UNKNOWN);
        Edge.due("gate(-1, 4)", x.gate(-1, 4), DeltaCycles.UNKNOWN);
        Edge.due("queue(0, 0, 0) is the first", x.queue(0, 0, 0), 4);
        Edge.due("queue(0, -1, 0)", x.queue(0, -1, 0), -1);
        x.step();
        Edge.due("wave(0, 0, 0) is the latest", x.wave(0, 0, 0), 4);
        Edge.due("wave(0, -1, 0)", x.wave(0, -1, 0), -1);
        x.write(1, 3);
        Edge.due("told(12): the book's first", x.told(12), 0);
        Edge.due("keep(0)", x.keep(0), 1);
        Edge.due("keep(-1)", x.keep(-1), DeltaCycles.UNKNOWN);
        Edge.due("fault() at the first letter", Check.take(x, "x") == -11 ? x.fault() : -2, 0);
    }

    private static void sets() {
        Edge.says("Terms", "A SET is a whole number, bit k for k.");
        for (int w = 0; w < 8; w++) {
            DeltaCycles x = Check.of("w0;w0;w0;w0;w0;w0;w0;w0;");
            x.set(w, 1, 1);
            x.set(w, 0, 1);
            x.step();
            Edge.due("told(8): wire " + w + " flickers", x.told(8), 1 << w);
        }
        // gate g alone drives what comes: its wire was told 1, those of the others 0
        for (int g = 0; g < 7; g++) {
            StringBuilder text = new StringBuilder("w0;");
            for (int w = 1; w < 8; w++) {
                text.append(w == g + 1 ? "w1;" : "w0;");
            }
            for (int w = 1; w < 8; w++) {
                text.append("g0 0 0 ").append(w).append(" 5 0;");
            }
            DeltaCycles x = Check.of(text.toString());
            Edge.due("told(7): gate " + g + " holds", x.told(7), 1 << g);
        }
        DeltaCycles y = Check.of("w0;w0;w1;" + "g0 0 0 1 5 0;".repeat(7) + "g0 0 0 2 5 0;");
        Edge.due("told(7): gate 7 holds", y.told(7), 128);
        Edge.due("told(7) of none", new DeltaCycles().told(7), 0);

        Edge.says("Terms", "NONE is -1.");
        Edge.due("NONE", DeltaCycles.NONE, -1);
        Edge.due("wave(0, 0, 0)", y.wave(0, 0, 0), -1);

        Edge.says("Terms", "They are far below all that is counted: -1000000001 and on.");
        Edge.due("UNKNOWN", DeltaCycles.UNKNOWN, -1000000001);
        Edge.due("OUTSIDE", DeltaCycles.OUTSIDE, -1000000002);
        Edge.due("NOT", DeltaCycles.NOT, -1000000003);
        Edge.due("FULL", DeltaCycles.FULL, -1000000004);
    }

    private static void toldCall() {
        Edge.says("Promise 5", "0 WIRES, 1 GATES, 2 letters of THE TEXT, 3 TIME, 4 CYCLES in all (99999 at most), 5 1 it is ENDLESS, 0 not, 6 1 STILL, 0 not, "
            + "7 HOLDS, 8 WIRES that FLICKER (a SET), 9 SETTLES, 10 what waits BY HAND, 11 entries of THE BOOK, 12 WRONG, 13 how many can be undone.");
        toldIs("of nothing", new DeltaCycles(), 0, 0, 0, 0, 0, 0, 1, 0, 0, 0, 0, 0, -1, 0);
        DeltaCycles x = Check.of("w0;w1;w3;w0;g0 0 0 1 4 0;g1 0 1 2 6 0;");
        toldIs("as the text is taken", x, 4, 2, 0, 0, 0, 0, 0, 1, 0, 2, 0, 0, -1, 0);
        Check.feed(x, "w0;");
        x.set(3, 1, 9);
        x.set(3, 0, 9);
        x.set(0, 0, 20);
        x.write(3, 0);
        x.write(3, 1);
        toldIs("with some of each", x, 4, 2, 3, 0, 0, 0, 0, 1, 0, 4, 3, 2, 1, 3);
        x.run(10);
        toldIs("at 10", x, 4, 2, 3, 10, 4, 0, 0, 3, 8, 1, 1, 2, 1, 4);
        x.step();
        toldIs("at 20", x, 4, 2, 3, 20, 5, 0, 1, 3, 8, 0, 0, 2, 1, 5);
        DeltaCycles y = Check.of("w0;w0;g0 0 0 1 0 0;g0 1 1 0 0 0;");
        toldIs("ahead of the end that is none", y, 2, 2, 0, 0, 0, 0, 0, 0, 0, -1, 0, 0, -1, 0);
        y.step();
        toldIs("of what is ENDLESS", y, 2, 2, 0, 0, 40, 1, 1, 0, 3, -1, 0, 0, -1, 1);
    }

    private static void toldIs(String when, DeltaCycles x, int... due) {
        for (int what = 0; what < due.length; what++) {
            Edge.due("told(" + what + ") " + when, x.told(what), due[what]);
        }
    }

    private static void mostCycles() {
        Edge.says("Promise 5", "4 CYCLES in all (99999 at most)");
        StringBuilder text = new StringBuilder("w0;w0;w0;w0;w0;w0;w0;w0;g0 0 0 0 1 0;");
        for (int w = 0; w < 6; w++) {
            text.append("g0 ").append(w).append(' ').append(w).append(' ').append(w + 1).append(" 0 0;");
        }
        DeltaCycles x = Check.of(text.toString());
        x.step();
        int cycles = x.told(4);
        x.step();
        Edge.due("seven cycles a step", x.told(4), cycles + 7);
        for (int i = 0; i < 71; i++) {
            x.run(200);
        }
        cycles += 7 + 71 * 1400;
        Edge.due("told(4)", x.told(4), cycles);
        int steps = (99999 - 7 - cycles) / 7;
        x.run(steps);
        cycles += 7 * steps;
        Edge.due("told(4)", x.told(4), cycles);
        for (int i = 1; cycles < 99999; i++) {
            x.set(7, i % 2, 0);
            x.step();
            cycles++;
            Edge.due("told(4)", x.told(4), cycles);
        }
        x.set(7, 2, 0);
        x.step();
        Edge.due("told(4) of 100000", x.told(4), 99999);
        x.step();
        Edge.due("told(4) of more", x.told(4), 99999);
        x.undo(3);
        Edge.due("told(4), all of that undone", x.told(4), 99999);
        x.undo(2);
        Edge.due("told(4), one more undone", x.told(4), 99998);
    }

    private static void toldRefused() {
        Edge.says("Promise 5", "OUTSIDE.");
        DeltaCycles x = Check.of("w0;w0;g0 0 0 1 1 0;");
        int[] off = {-1, 14, 15, -2, 255, Integer.MIN_VALUE, Integer.MAX_VALUE};
        for (int what : off) {
            Edge.due("told(" + what + ")", x.told(what), DeltaCycles.OUTSIDE);
            Edge.due("told(" + what + ") of nothing", new DeltaCycles().told(what), DeltaCycles.OUTSIDE);
        }
        Edge.due("told(0)", x.told(0), 2);
        Edge.due("told(13)", x.told(13), 0);
    }

    private static void still() {
        Edge.says("Section 3 (promise 5)", "STILL: nothing waits.");
        DeltaCycles x = Check.of("w0;w0;g0 0 0 1 20 0;");
        Edge.due("told(6) with one in a QUEUE", x.told(6), 0);
        x.run(19);
        Edge.due("told(6)", x.told(6), 0);
        x.run(1);
        Edge.due("told(6) with none", x.told(6), 1);
        x.set(0, 0, 20);
        Edge.due("told(6) with one BY HAND", x.told(6), 0);
        x.step();
        Edge.due("told(6) with none", x.told(6), 1);
        Edge.due("told(6) with no WIRES", new DeltaCycles().told(6), 1);
        DeltaCycles y = Check.of("w0;w0;" + "g2 0 0 1 1 0;".repeat(7) + "g2 0 0 1 2 0;");
        y.step();
        Edge.due("told(6) with one in the last QUEUE of eight", y.told(6), 0);
        y.step();
        Edge.due("told(6)", y.told(6), 1);
    }

    private static void holds() {
        Edge.says("Section 3 (promise 5)", "HOLDS: GATES (a SET) that DRIVE what comes of the LEVELS now.");
        DeltaCycles x = Check.of("w0;w0;w1;" + "g0 0 0 1 3 0;".repeat(4) + "g0 0 0 2 3 0;".repeat(4));
        Edge.due("told(7)", x.told(7), 0xf0);
        x.step();
        Edge.due("told(7)", x.told(7), 0xff);
        x.set(0, 1, 0);
        x.step();
        Edge.due("told(7)", x.told(7), 0);
        x.step();
        Edge.due("told(7)", x.told(7), 0xff);
        // what it drives, not what its wire has
        DeltaCycles y = Check.of("w0;w1;w2;g2 0 0 2 1 0;g2 1 1 2 1 0;");
        y.step();
        Edge.due("wire(2, 0) is UNSURE", y.wire(2, 0), 3);
        Edge.due("told(7)", y.told(7), 3);
        // keep: as it drives, LOOSE too
        Edge.due("told(7) of KIND 5", Check.of("w1;w0;w2;g5 0 1 2 1 0;").told(7), 1);
        Edge.due("told(7) of KIND 5, let through", Check.of("w1;w1;w2;g5 0 1 2 1 0;").told(7), 0);
    }

    private static void without() {
        Edge.says("Section 3 (promise 8)", "WITHOUT a GATE: the LEVEL that the WIRE it drives would have now, were it not RESOLVED with (LOOSE, if none else drives it).");
        for (int level = 0; level < 4; level++) {
            DeltaCycles x = Check.of("w0;w" + level + ";g0 0 0 1 3 0;");
            Edge.due("gate(0, 9), alone", x.gate(0, 9), 2);
            DeltaCycles y = Check.of("w0;w" + level + ";g0 0 0 1 3 0;g0 0 0 1 5 0;");
            Edge.due("gate(0, 9) of two", y.gate(0, 9), level);
            y.step();
            Edge.due("gate(0, 9): the other drives what it did", y.gate(0, 9), level);
            Edge.due("gate(1, 9)", y.gate(1, 9), 1);
            y.step();
            Edge.due("gate(0, 9)", y.gate(0, 9), 1);
        }
        // 0 and 1 and LOOSE
        DeltaCycles z = Check.of("w0;w1;w2;g2 0 0 2 1 0;g2 1 1 2 1 0;g4 1 0 2 1 0;");
        z.step();
        Edge.due("wire(2, 0)", z.wire(2, 0), 3);
        Edge.due("gate(0, 9)", z.gate(0, 9), 1);
        Edge.due("gate(1, 9)", z.gate(1, 9), 0);
        Edge.due("gate(2, 9)", z.gate(2, 9), 3);
        DeltaCycles u = Check.of("w0;w1;" + "g0 0 0 1 3 0;".repeat(8));
        Edge.due("gate(7, 9) of eight", u.gate(7, 9), 1);
    }

    private static void settles() {
        Edge.says("Section 3 (promise 5)", "SETTLES: how many STEPS from now on till all is STILL (100 at most; NONE: more, or ENDLESS).");
        DeltaCycles x = Check.of(SLOW_END);
        Edge.due("told(9): it has no end", x.told(9), -1);
        x.set(0, 0, 1);
        Edge.due("told(9): 100", x.told(9), 100);
        x.step();
        Edge.due("told(9): 99", x.told(9), 99);
        x.undo(2);
        x.set(0, 0, 2);
        Edge.due("told(9): 101", x.told(9), -1);
        x.step();
        Edge.due("told(9): 100", x.told(9), 100);
        x.run(100);
        Edge.due("told(9)", x.told(9), 0);
        Edge.due("told(6)", x.told(6), 1);
        Edge.due("told(9) of nothing", new DeltaCycles().told(9), 0);
        DeltaCycles y = Check.of("w0;w0;w1;g1 0 2 1 0 0;g0 1 1 2 0 0;");
        Edge.due("told(9)", y.told(9), 1);
        y.set(0, 1, 20);
        Edge.due("told(9): it becomes ENDLESS", y.told(9), -1);
        y.run(20);
        Edge.due("told(9): it is ENDLESS", y.told(9), -1);
        Edge.due("told(6): though nothing waits", y.told(6), 1);
        y.undo(2);
        y.set(0, 0, 20);
        Edge.due("told(9)", y.told(9), 2);
        Edge.due("told(13): asking is no deed", y.told(13), 1);
    }

    private static void wireCall() {
        Edge.says("Promise 6", "Of a WIRE: what = 0 LEVEL, 1 how many GATES drive it, 2 CHANGES, 3 TIME of the last one (NONE), 4 how many GATES look at it.");
        DeltaCycles x = Check.of("w0;w0;w0;w2;w0;w0;w0;w3;" + "g1 0 1 7 5 0;".repeat(7) + "g0 0 1 7 5 0;");
        int[][] due = {{0, 0, 0, -1, 8}, {0, 0, 0, -1, 7}, {0, 0, 0, -1, 0}, {2, 0, 0, -1, 0}, {0, 0, 0, -1, 0}, {0, 0, 0, -1, 0}, {0, 0, 0, -1, 0}, {3, 8, 0, -1, 0}};
        for (int w = 0; w < 8; w++) {
            for (int what = 0; what < 5; what++) {
                Edge.due("wire(" + w + ", " + what + ")", x.wire(w, what), due[w][what]);
            }
        }
        x.set(1, 1, 0);
        x.set(0, 1, 5);
        x.run(12);
        Edge.due("wire(1, 2)", x.wire(1, 2), 1);
        Edge.due("wire(1, 3): at TIME 0", x.wire(1, 3), 0);
        Edge.due("wire(0, 3)", x.wire(0, 3), 5);
        // 3 to UNSURE of 0 and 1 is no change; at 10 seven drive 1 and one 0
        Edge.due("wire(7, 2)", x.wire(7, 2), 0);
        Edge.due("wire(7, 3)", x.wire(7, 3), -1);

        Edge.says("Promise 6", "UNKNOWN, OUTSIDE.");
        DeltaCycles y = Check.of("w0;w0;w0;");
        int[] off = {-1, 5, 6, Integer.MIN_VALUE, Integer.MAX_VALUE};
        for (int what : off) {
            Edge.due("wire(2, " + what + ")", y.wire(2, what), DeltaCycles.OUTSIDE);
            Edge.due("wire(3, " + what + ")", y.wire(3, what), DeltaCycles.UNKNOWN);
            Edge.due("wire(7, " + what + ") of eight", x.wire(7, what), DeltaCycles.OUTSIDE);
        }
        for (int w : FAR) {
            for (int what = -1; what < 6; what++) {
                Edge.due("wire(" + w + ", " + what + ")", x.wire(w, what), DeltaCycles.UNKNOWN);
                Edge.due("wire(" + w + ", " + what + ") of three", y.wire(w, what), DeltaCycles.UNKNOWN);
            }
        }
        Edge.due("wire(3, 0) of three", y.wire(3, 0), DeltaCycles.UNKNOWN);
    }

    private static void waveCall() {
        Edge.says("Promise 7", "The k-th of the last CHANGES of a WIRE (0 the latest): what = 0 TIME, 1 LEVEL; NONE: not so many.");
        DeltaCycles x = Check.of("w0;w0;");
        for (int i = 1; i <= 9; i++) {
            x.set(0, i % 2 == 0 ? 2 : 3, 3);
            x.run(3);
        }
        for (int k = 0; k < 8; k++) {
            Edge.due("wave(0, " + k + ", 0)", x.wave(0, k, 0), 3 * (9 - k));
            Edge.due("wave(0, " + k + ", 1)", x.wave(0, k, 1), k % 2 == 0 ? 3 : 2);
        }
        x.set(1, 1, 0);
        x.step();
        Edge.due("wave(1, 0, 0)", x.wave(1, 0, 0), 27);
        Edge.due("wave(1, 0, 1)", x.wave(1, 0, 1), 1);
        int[] off = {-1, 8, 9, Integer.MIN_VALUE, Integer.MAX_VALUE};
        for (int k : off) {
            for (int what = 0; what < 2; what++) {
                Edge.due("wave(0, " + k + ", " + what + ")", x.wave(0, k, what), -1);
                Edge.due("wave(1, " + k + ", " + what + ")", x.wave(1, k, what), -1);
            }
        }
        Edge.due("wave(1, 1, 0)", x.wave(1, 1, 0), -1);
        Edge.due("wave(1, 1, 1)", x.wave(1, 1, 1), -1);

        Edge.says("Promise 7", "UNKNOWN, OUTSIDE (what).");
        int[] whats = {-1, 2, 3, Integer.MIN_VALUE, Integer.MAX_VALUE};
        int[] places = {-1, 0, 7, 8, Integer.MAX_VALUE, Integer.MIN_VALUE};
        for (int k : places) {
            for (int what : whats) {
                Edge.due("wave(0, " + k + ", " + what + ")", x.wave(0, k, what), DeltaCycles.OUTSIDE);
                Edge.due("wave(2, " + k + ", " + what + ")", x.wave(2, k, what), DeltaCycles.UNKNOWN);
            }
            for (int w : FAR) {
                Edge.due("wave(" + w + ", " + k + ", 0)", x.wave(w, k, 0), DeltaCycles.UNKNOWN);
                Edge.due("wave(" + w + ", " + k + ", 2)", x.wave(w, k, 2), DeltaCycles.UNKNOWN);
            }
        }
    }

    private static void gateCall() {
        Edge.says("Promise 8", "Of a GATE: what = 0 KIND, 1 A, 2 B, 3 C, 4 DELAY, 5 MODE, 6 what it DRIVES, 7 what comes of the LEVELS now, 8 how many are in its QUEUE, 9 WITHOUT.");
        DeltaCycles x = Check.of("w1;w0;w3;w1;" + "g2 0 1 3 20 1;".repeat(6) + "g3 0 1 2 7 0;g4 0 1 3 0 0;");
        int[][] due = {{2, 0, 1, 3, 20, 1, 1, 1, 1, 1}, {3, 0, 1, 2, 7, 0, 3, 1, 1, 2}, {4, 0, 1, 3, 0, 0, 1, 2, 1, 1}};
        for (int what = 0; what < 10; what++) {
            Edge.due("gate(0, " + what + ")", x.gate(0, what), due[0][what]);
            Edge.due("gate(6, " + what + ")", x.gate(6, what), due[1][what]);
            Edge.due("gate(7, " + what + ")", x.gate(7, what), due[2][what]);
        }
        x.run(7);
        Edge.due("gate(6, 6)", x.gate(6, 6), 1);
        Edge.due("gate(6, 8)", x.gate(6, 8), 0);
        Edge.due("gate(7, 6)", x.gate(7, 6), 2);

        Edge.says("Promise 8", "UNKNOWN, OUTSIDE.");
        DeltaCycles y = Check.of("w0;w0;g0 0 0 1 1 0;");
        int[] off = {-1, 10, 11, Integer.MIN_VALUE, Integer.MAX_VALUE};
        for (int what : off) {
            Edge.due("gate(0, " + what + ")", y.gate(0, what), DeltaCycles.OUTSIDE);
            Edge.due("gate(1, " + what + ")", y.gate(1, what), DeltaCycles.UNKNOWN);
            Edge.due("gate(7, " + what + ") of eight", x.gate(7, what), DeltaCycles.OUTSIDE);
        }
        for (int g : FAR) {
            for (int what = -1; what < 11; what++) {
                Edge.due("gate(" + g + ", " + what + ")", x.gate(g, what), DeltaCycles.UNKNOWN);
            }
        }
        Edge.due("gate(1, 0) of one", y.gate(1, 0), DeltaCycles.UNKNOWN);
    }

    private static void queueCall() {
        Edge.says("Promise 9", "The k-th thing in THE QUEUE of a GATE: what = 0 TIME, 1 LEVEL; NONE: not so many.");
        DeltaCycles x = Check.of("w0;w1;g2 0 0 1 20 0;");
        for (int i = 1; i <= 9; i++) {
            int things = Math.min(8, i);
            for (int k = -2; k < 10; k++) {
                boolean there = k >= 0 && k < things;
                int told = i - things + k;
                Edge.due("queue(0, " + k + ", 0) of " + i, x.queue(0, k, 0), there ? 20 + told : -1);
                Edge.due("queue(0, " + k + ", 1) of " + i, x.queue(0, k, 1), there ? told % 2 : -1);
            }
            x.set(0, i % 2, 1);
            x.step();
        }
        Edge.due("queue(0, greatest, 0)", x.queue(0, Integer.MAX_VALUE, 0), -1);
        Edge.due("queue(0, least, 1)", x.queue(0, Integer.MIN_VALUE, 1), -1);
        x.run(200);
        Edge.due("queue(0, 0, 0) of none", x.queue(0, 0, 0), -1);
        Edge.due("queue(0, 0, 1) of none", x.queue(0, 0, 1), -1);

        Edge.says("Promise 9", "UNKNOWN, OUTSIDE (what).");
        int[] whats = {-1, 2, 3, Integer.MIN_VALUE, Integer.MAX_VALUE};
        int[] places = {-1, 0, 7, 8, Integer.MAX_VALUE, Integer.MIN_VALUE};
        for (int k : places) {
            for (int what : whats) {
                Edge.due("queue(0, " + k + ", " + what + ")", x.queue(0, k, what), DeltaCycles.OUTSIDE);
                Edge.due("queue(1, " + k + ", " + what + ")", x.queue(1, k, what), DeltaCycles.UNKNOWN);
            }
            for (int g : FAR) {
                Edge.due("queue(" + g + ", " + k + ", 0)", x.queue(g, k, 0), DeltaCycles.UNKNOWN);
                Edge.due("queue(" + g + ", " + k + ", 2)", x.queue(g, k, 2), DeltaCycles.UNKNOWN);
            }
        }
    }

    private static void bookAtMost() {
        Edge.says("Section 3 (promise 18)", "THE BOOK (20 at most) tells a LEVEL of a WIRE:");
        DeltaCycles x = Check.of("w0;w0;w0;w0;w0;w0;w0;w1;");
        for (int i = 1; i <= 19; i++) {
            Edge.due("write(0, 0)", x.write(0, 0), i);
        }
        Edge.due("the 20th", x.write(7, 3), 20);
        Edge.due("the 21st", x.write(7, 2), DeltaCycles.FULL);
        Edge.due("told(11)", x.told(11), 20);
        Edge.due("told(12): the 20th is judged", x.told(12), 19);
        x.set(7, 3, 0);
        x.step();
        Edge.due("told(12): what was refused is not", x.told(12), -1);
    }

    private static void wrong() {
        Edge.says("Section 3 (promise 5)", "WRONG: the first that is otherwise now (a WIRE that there is no more: it is, too); NONE.");
        DeltaCycles x = Check.of("w0;w1;w2;w3;");
        Edge.due("told(12) of no BOOK", x.told(12), -1);
        for (int w = 0; w < 4; w++) {
            x.write(w, w);
        }
        Edge.due("told(12): none is wrong", x.told(12), -1);
        x.write(2, 3);
        x.write(3, 2);
        Edge.due("told(12)", x.told(12), 4);
        for (int w = 3; w >= 0; w--) {
            x.set(w, w == 0 ? 3 : 0, 1);
            Edge.due("told(12): not yet", x.told(12), w == 3 ? 4 : w + 1);
            x.step();
            Edge.due("told(12)", x.told(12), w);
        }
        Edge.due("wires() of fewer: there is no BOOK then", Check.take(x, "w0;"), 1);
        Edge.due("told(12)", x.told(12), -1);
        // a loose level is no other one's
        DeltaCycles y = Check.of("w2;");
        y.write(0, 2);
        y.write(0, 3);
        Edge.due("told(12) of LOOSE", y.told(12), 1);
    }

    private static void writeCall() {
        Edge.says("Promise 18", "An entry behind THE BOOK: how many.");
        DeltaCycles x = Check.of("w0;w1;w0;w0;w0;w0;w0;w2;");
        Edge.due("write(0, 0)", x.write(0, 0), 1);
        Edge.due("write(0, 0) again", x.write(0, 0), 2);
        Edge.due("write(7, 3)", x.write(7, 3), 3);
        Edge.due("told(11)", x.told(11), 3);
        Edge.due("told(12): it came behind", x.told(12), 2);
        Edge.due("told(13): no deed", x.told(13), 0);

        Edge.says("Promise 18", "UNKNOWN (WIRE, LEVEL), FULL (20).");
        for (int w : FAR) {
            Edge.due("write(" + w + ", 0)", x.write(w, 0), DeltaCycles.UNKNOWN);
        }
        int[] noLevel = {-1, 4, Integer.MIN_VALUE, Integer.MAX_VALUE};
        for (int level : noLevel) {
            Edge.due("write(0, " + level + ")", x.write(0, level), DeltaCycles.UNKNOWN);
        }
        Edge.due("told(11)", x.told(11), 3);
        for (int i = 4; i <= 20; i++) {
            Edge.due("write(1, 1)", x.write(1, 1), i);
        }
        Edge.due("the 21st", x.write(1, 1), DeltaCycles.FULL);
        Edge.due("the 21st, of no WIRE", x.write(8, 1), DeltaCycles.UNKNOWN);
        Edge.due("the 21st, of no LEVEL", x.write(1, 4), DeltaCycles.UNKNOWN);
        Edge.due("told(11)", x.told(11), 20);
        Edge.due("write(0, 0) of no WIRES", new DeltaCycles().write(0, 0), DeltaCycles.UNKNOWN);
    }

    private static void tearCall() {
        Edge.says("Promise 19", "No BOOK: how much it had.");
        DeltaCycles x = Check.of("w0;");
        Edge.due("tear() of none", x.tear(), 0);
        x.write(0, 1);
        Edge.due("tear() of one", x.tear(), 1);
        Edge.due("told(11)", x.told(11), 0);
        Edge.due("told(12)", x.told(12), -1);
        Edge.due("tear() again", x.tear(), 0);
        for (int i = 1; i <= 21; i++) {
            x.write(0, 0);
        }
        Edge.due("tear() of twenty", x.tear(), 20);
        Edge.due("write(0, 3): the first again", x.write(0, 3), 1);
        Edge.due("told(12)", x.told(12), 0);
        Edge.due("told(13): no deed", x.told(13), 0);
    }
}

/** The edges of what happens: section 2, and promises 12 to 15. */
final class EdgesOfTime {
    /** As wire 0 becomes 1 there are 39 cycles with a change and one without, then all is still. */
    private static final String LONG = "w0;w0;w0;w0;w0;w0;w0;w0;g2 7 5 1 0 0;g0 4 3 2 0 0;g1 1 6 3 0 0;g1 3 0 4 0 0;g3 6 7 5 0 0;g3 2 7 6 0 0;g1 5 0 7 0 0;";
    /** As wire 0 becomes 1 there would be 40 cycles with a change, and an end by itself. */
    private static final String ONE_LONGER = "w0;w0;w0;w0;w0;w0;w0;w0;g0 2 0 1 0 0;g3 0 4 2 0 0;g2 7 1 3 0 0;g3 6 3 4 0 0;g1 3 0 5 0 0;g0 5 1 6 0 0;g2 1 1 7 0 0;";
    /** Wires 1 and 2 go round without end while wire 0 is 1; wires 3 and 4 are free and looked at by a slow gate. */
    private static final String GATED = "w0;w0;w1;w0;w0;w0;g1 0 2 1 0 0;g0 1 1 2 0 0;g1 3 4 5 20 0;";

    private EdgesOfTime() {
    }

    static void all() {
        eightInAQueue();
        overtaken();
        forgets();
        comesBehind();
        cycleTakes();
        cycleTakesByHand();
        allAtOnce();
        tellsThoseThatLook();
        nextCycle();
        anotherCycle();
        fortieth();
        endlessIsEmpty();
        begun();
        steps();
        runs();
        byHand();
        byHandAtMost();
        changes();
        waves();
        flicker();
        calmed();
        stepCall();
        runCall();
        runEnds();
        setCall();
        setRefused();
        calmCall();
    }

    /** Times and levels, in turn. */
    private static void queueIs(String when, DeltaCycles x, int g, int... due) {
        Edge.due("gate(" + g + ", 8) " + when, x.gate(g, 8), due.length / 2);
        for (int k = 0; k < due.length / 2; k++) {
            Edge.due("queue(" + g + ", " + k + ", 0) " + when, x.queue(g, k, 0), due[2 * k]);
            Edge.due("queue(" + g + ", " + k + ", 1) " + when, x.queue(g, k, 1), due[2 * k + 1]);
        }
        Edge.due("queue(" + g + ", " + due.length / 2 + ", 0) " + when, x.queue(g, due.length / 2, 0), -1);
        Edge.due("queue(" + g + ", " + due.length / 2 + ", 1) " + when, x.queue(g, due.length / 2, 1), -1);
    }

    private static void eightInAQueue() {
        Edge.says("Section 2 (promise 9)", "THE QUEUE of a GATE: things to be done (8 at most): a TIME, a LEVEL.");
        DeltaCycles x = Check.of("w0;w0;g2 0 0 1 20 0;");
        int[] due = {20, 0, 21, 1, 22, 0, 23, 1, 24, 0, 25, 1, 26, 0, 27, 1};
        queueIs("of one", x, 0, 20, 0);
        for (int i = 1; i <= 7; i++) {
            x.set(0, i % 2, 1);
            x.step();
            queueIs("of " + (i + 1), x, 0, java.util.Arrays.copyOf(due, 2 * i + 2));
        }
        x.set(0, 0, 1);
        x.step();
        Edge.due("gate(0, 8) after a ninth", x.gate(0, 8), 8);
        x.set(0, 1, 1);
        x.step();
        Edge.due("gate(0, 8) after a tenth", x.gate(0, 8), 8);
        Edge.due("queue(0, 7, 0)", x.queue(0, 7, 0), 29);
        // eight gates with eight things each, and the ninth
        DeltaCycles y = Check.of("w0;w0;w0;w0;w0;w0;w0;w0;" + "g2 0 0 7 20 0;".repeat(8));
        for (int i = 1; i <= 8; i++) {
            y.set(0, i % 2, i);
        }
        y.run(7);
        for (int g = 0; g < 8; g++) {
            queueIs("of eight", y, g, due);
        }
        y.step();
        for (int g = 0; g < 8; g++) {
            queueIs("of nine", y, g, 21, 1, 22, 0, 23, 1, 24, 0, 25, 1, 26, 0, 27, 1, 28, 0);
        }
    }

    private static void overtaken() {
        Edge.says("Section 2 (promise 9)", "TOLD a LEVEL at TIME t, DELAY D: all in its QUEUE of t and D or later go;");
        for (int mode = 0; mode < 2; mode++) {
            DeltaCycles x = Check.of("w0;w0;g2 0 0 1 20 " + mode + ";");
            x.run(21);
            x.set(0, 1, 4);
            x.set(0, 3, 4);
            x.step();
            queueIs("told twice at 25, MODE " + mode, x, 0, 45, 3);
            x.undo(3);
            x.set(0, 1, 4);
            x.set(0, 0, 4);
            x.set(0, 1, 4);
            x.step();
            queueIs("told thrice at 25, MODE " + mode, x, 0, 45, 1);
            DeltaCycles z = Check.of("w0;w0;g2 0 0 1 1 " + mode + ";");
            z.set(0, 1, 0);
            z.step();
            queueIs("told anew at 0, MODE " + mode, z, 0, 1, 1);
        }
        DeltaCycles y = Check.of("w0;w0;g2 0 0 1 20 0;");
        y.set(0, 1, 1);
        y.set(0, 0, 2);
        y.set(0, 3, 2);
        y.step();
        queueIs("told at 1", y, 0, 20, 0, 21, 1);
        y.step();
        queueIs("told twice at 2: one ahead stays", y, 0, 20, 0, 21, 1, 22, 3);
    }

    private static void forgets() {
        Edge.says("Section 2 (promise 9)", "MODE 1 (it forgets): besides, from the last one on backward, those of the same LEVEL stay, "
            + "the first that is otherwise and all ahead of it go;");
        // and: 0 comes as long as wire 1 is 0
        DeltaCycles x = Check.of("w0;w0;w0;g1 0 1 2 9 1;");
        x.set(0, 1, 1);
        x.set(0, 3, 2);
        x.set(0, 1, 3);
        x.set(1, 1, 4);
        x.set(0, 3, 5);
        x.set(0, 2, 6);
        x.set(0, 0, 6);
        x.step();
        queueIs("told 0 again", x, 0, 9, 0, 10, 0);
        x.run(2);
        queueIs("told 0 twice more", x, 0, 9, 0, 10, 0, 11, 0, 12, 0);
        x.step();
        queueIs("told 1: all that are otherwise go", x, 0, 13, 1);
        x.step();
        queueIs("told UNSURE", x, 0, 14, 3);
        x.step();
        queueIs("told UNSURE and then 0 at one time", x, 0, 15, 0);
        DeltaCycles y = Check.of("w0;w0;w0;g1 0 1 2 9 0;");
        y.set(0, 1, 1);
        y.set(1, 1, 4);
        y.set(0, 3, 5);
        y.run(5);
        queueIs("MODE 0 forgets nothing", y, 0, 9, 0, 10, 0, 13, 1, 14, 3);
        // each gate by its own queue: 1 comes to one of them, and 0 to the others, whatever wire 0 is
        DeltaCycles z = Check.of("w0;w1;w0;w0;w0;w0;g1 0 2 3 9 1;g2 0 1 4 9 1;g1 0 2 5 9 1;");
        for (int i = 1; i <= 4; i++) {
            z.set(0, i % 2, i);
        }
        z.run(3);
        queueIs("of 0 alike", z, 0, 9, 0, 10, 0, 11, 0, 12, 0);
        queueIs("of 1 alike", z, 1, 9, 1, 10, 1, 11, 1, 12, 1);
        queueIs("of 0 alike", z, 2, 9, 0, 10, 0, 11, 0, 12, 0);
        z.set(1, 0, 0);
        z.step();
        queueIs("told 1 still, as wire 0 is: the one of this TIME is told anew", z, 1, 9, 1, 10, 1, 11, 1, 12, 1);
        z.step();
        queueIs("told 0: all the others go", z, 1, 13, 0);
        queueIs("of 0 alike", z, 0, 9, 0, 10, 0, 11, 0, 12, 0, 13, 0);
    }

    private static void comesBehind() {
        Edge.says("Section 2 (promise 9)", "then t and D with this LEVEL comes behind it (if there are 8, the first one goes).");
        DeltaCycles x = Check.of("w0;w0;g2 0 0 1 20 0;");
        for (int i = 1; i <= 7; i++) {
            x.set(0, i % 2, i);
        }
        x.run(6);
        queueIs("of seven", x, 0, 20, 0, 21, 1, 22, 0, 23, 1, 24, 0, 25, 1, 26, 0);
        x.step();
        queueIs("of eight", x, 0, 20, 0, 21, 1, 22, 0, 23, 1, 24, 0, 25, 1, 26, 0, 27, 1);
        x.set(0, 3, 0);
        x.step();
        queueIs("the last one overtaken: there are seven then, the first one stays", x, 0, 20, 0, 21, 1, 22, 0, 23, 1, 24, 0, 25, 1, 26, 0, 27, 3);
        x.set(0, 0, 1);
        x.step();
        queueIs("a ninth", x, 0, 21, 1, 22, 0, 23, 1, 24, 0, 25, 1, 26, 0, 27, 3, 28, 0);
        // eight alike that forget nothing
        DeltaCycles y = Check.of("w0;w0;w0;g1 0 1 2 20 1;");
        for (int i = 1; i <= 8; i++) {
            y.set(0, i % 2, i);
        }
        y.run(7);
        queueIs("of eight alike", y, 0, 20, 0, 21, 0, 22, 0, 23, 0, 24, 0, 25, 0, 26, 0, 27, 0);
        y.step();
        queueIs("of nine alike", y, 0, 21, 0, 22, 0, 23, 0, 24, 0, 25, 0, 26, 0, 27, 0, 28, 0);
    }

    private static void cycleTakes() {
        Edge.says("Section 2 (promise 12)", "A CYCLE at a TIME: all first things of QUEUES that are due (their TIME is now) are taken, one of each QUEUE,");
        StringBuilder text = new StringBuilder("w0;w3;w3;w3;w3;w3;w3;w3;");
        for (int w = 1; w < 8; w++) {
            text.append("g2 0 0 ").append(w).append(w < 7 ? " 5 0;" : " 6 0;");
        }
        DeltaCycles x = Check.of(text.toString());
        x.set(0, 1, 1);
        x.set(0, 3, 2);
        x.run(4);
        Edge.due("step()", x.step(), 5);
        Edge.due("told(4): one cycle takes all that are due", x.told(4), 3);
        for (int w = 1; w < 7; w++) {
            Edge.due("wire(" + w + ", 0)", x.wire(w, 0), 0);
            queueIs("one was taken", x, w - 1, 6, 1, 7, 3);
        }
        Edge.due("wire(7, 0) is not due yet", x.wire(7, 0), 3);
        queueIs("none was taken", x, 6, 6, 0, 7, 1, 8, 3);
        Edge.due("step()", x.step(), 6);
        Edge.due("wire(6, 0)", x.wire(6, 0), 1);
        Edge.due("wire(7, 0)", x.wire(7, 0), 0);
    }

    private static void cycleTakesByHand() {
        Edge.says("Section 2 (promises 12, 14)", "and what was set by hand for this TIME (the first of it);");
        DeltaCycles x = Check.of("w0;w0;w0;g3 0 1 2 0 0;");
        x.step();
        int cycles = x.told(4);
        x.set(0, 1, 2);
        x.set(1, 1, 2);
        Edge.due("step()", x.step(), 2);
        // 0: wire 0; 1: wire 1, and the gate's 1; 2: the gate's 0
        Edge.due("told(4)", x.told(4) - cycles, 3);
        Edge.due("wire(2, 2): it was 1 for a cycle", x.wire(2, 2), 2);
        Edge.due("wave(2, 1, 1)", x.wave(2, 1, 1), 1);
        Edge.due("wave(2, 0, 1)", x.wave(2, 0, 1), 0);
        x.set(0, 3, 1);
        x.set(0, 2, 2);
        Edge.due("step()", x.step(), 3);
        Edge.due("what was set for a later TIME waits", x.told(10), 1);
        Edge.due("wire(0, 0)", x.wire(0, 0), 3);
    }

    private static void allAtOnce() {
        Edge.says("Section 2 (promise 12)", "GATES DRIVE these LEVELS, all WIRES are RESOLVED at once;");
        DeltaCycles x = Check.of("w0;w1;g2 0 0 1 1 0;g2 1 1 0 1 0;");
        for (int i = 1; i <= 5; i++) {
            Edge.due("step()", x.step(), i);
            Edge.due("two change places: wire(0, 0)", x.wire(0, 0), i % 2);
            Edge.due("wire(1, 0)", x.wire(1, 0), 1 - i % 2);
        }
        // one lets go of wire 3 as another takes hold of it: it never changes
        DeltaCycles y = Check.of("w1;w0;w1;w2;g4 0 2 3 5 0;g4 0 1 3 5 0;g0 2 2 1 0 0;");
        y.run(10);
        Edge.due("wire(3, 0)", y.wire(3, 0), 1);
        int changes = y.wire(3, 2);
        y.set(2, 0, 1);
        y.run(10);
        Edge.due("gate(0, 6) let go", y.gate(0, 6), 2);
        Edge.due("gate(1, 6) took hold", y.gate(1, 6), 1);
        Edge.due("wire(3, 2)", y.wire(3, 2), changes);
    }

    private static void tellsThoseThatLook() {
        Edge.says("Section 2 (promises 9, 12)", "then all GATES that look at a WIRE that changed, in any order, are TOLD what comes of the LEVELS now.");
        DeltaCycles x = Check.of("w0;w0;w0;w0;g2 0 0 2 5 0;g2 1 1 3 5 0;g2 0 1 3 5 0;");
        x.run(6);
        x.set(0, 0, 1);
        x.step();
        Edge.due("set to what it is, a wire tells nobody: gate(0, 8)", x.gate(0, 8), 0);
        x.set(0, 1, 1);
        x.step();
        queueIs("it looks at wire 0", x, 0, 13, 1);
        queueIs("it does not", x, 1);
        queueIs("it looks at both", x, 2, 13, 1);
        // the order of the gates in the text has no say
        String[] gates = {"g0 0 0 1 0 0;", "g1 0 1 2 0 0;", "g2 1 2 3 0 1;", "g3 0 3 4 1 0;"};
        int[][] orders = {{0, 1, 2, 3}, {3, 2, 1, 0}, {1, 3, 0, 2}, {2, 0, 3, 1}};
        String first = "";
        for (int[] order : orders) {
            StringBuilder text = new StringBuilder("w0;w0;w0;w0;w0;");
            for (int g : order) {
                text.append(gates[g]);
            }
            DeltaCycles y = Check.of(text.toString());
            StringBuilder waves = new StringBuilder();
            for (int i = 1; i < 6; i++) {
                y.set(0, i % 4, 1);
                y.step();
                y.run(2);
                for (int w = 0; w < 5; w++) {
                    waves.append(y.wire(w, 0)).append(y.wire(w, 2)).append(y.wave(w, 1, 1)).append(' ');
                }
                waves.append(y.told(4)).append(' ');
            }
            first = first.isEmpty() ? waves.toString() : first;
            Edge.same("the waves of '" + text + "'", waves.toString(), first);
        }
    }

    private static void nextCycle() {
        Edge.says("Section 2 (promise 12)", "(So a DELAY of 0 is due in the next CYCLE.)");
        DeltaCycles x = Check.of("w0;w1;w0;g0 0 0 1 0 0;g1 0 1 2 0 0;");
        x.step();
        int cycles = x.told(4);
        x.set(0, 1, 3);
        Edge.due("step()", x.step(), 3);
        // 0: wire 0; 1: wire 1 is 0, and wire 2 is 1, of the wire 1 ahead; 2: wire 2 is 0
        Edge.due("told(4)", x.told(4) - cycles, 3);
        Edge.due("wire(1, 0)", x.wire(1, 0), 0);
        Edge.due("wire(2, 0)", x.wire(2, 0), 0);
        Edge.due("wire(2, 2)", x.wire(2, 2), 2);
        Edge.due("wave(2, 1, 1)", x.wave(2, 1, 1), 1);
        Edge.due("wave(2, 1, 0)", x.wave(2, 1, 0), 3);
        Edge.due("all at TIME 3", x.wave(2, 0, 0), 3);
    }

    private static void anotherCycle() {
        Edge.says("Section 2 (promise 12)", "Another CYCLE follows at this TIME as long as anything is due.");
        DeltaCycles x = Check.of("w0;w0;");
        for (int i = 1; i <= 8; i++) {
            x.set(0, i % 2, 6);
        }
        Edge.due("step()", x.step(), 6);
        Edge.due("told(4): eight set by hand, one a cycle", x.told(4), 8);
        Edge.due("wire(0, 2)", x.wire(0, 2), 8);
        for (int i = 1; i <= 8; i++) {
            x.set(0, 0, 6);
        }
        Edge.due("step()", x.step(), 12);
        Edge.due("told(4): none of them changes anything", x.told(4), 16);
        Edge.due("told(6)", x.told(6), 1);
    }

    private static DeltaCycles settled(String text) {
        DeltaCycles x = Check.of(text);
        x.step();
        Edge.due("told(5) ahead", x.told(5), 0);
        Edge.due("told(6) ahead", x.told(6), 1);
        return x;
    }

    private static void fortieth() {
        Edge.says("Section 2 (promises 12, 15)", "The 40th CYCLE of one STEP in which a WIRE changes is ENDLESS:");
        DeltaCycles x = settled(LONG);
        int cycles = x.told(4);
        x.set(0, 1, 3);
        Edge.due("step() of 39 cycles with a change", x.step(), 3);
        Edge.due("told(4): the 40th has none", x.told(4) - cycles, 40);
        Edge.due("told(5)", x.told(5), 0);
        Edge.due("told(6)", x.told(6), 1);
        Edge.due("told(7): all hold", x.told(7), 127);
        x.undo(2);
        x.set(0, 0, 3);
        x.set(0, 0, 3);
        x.set(0, 1, 3);
        x.step();
        Edge.due("told(4): two cycles without a change ahead", x.told(4) - cycles, 42);
        Edge.due("told(5): they do not count", x.told(5), 0);

        DeltaCycles y = settled(ONE_LONGER);
        int ahead = y.told(4);
        y.set(0, 1, 3);
        Edge.due("step() of 40 cycles with a change", y.step(), 3);
        Edge.due("told(5)", y.told(5), 1);
        Edge.due("told(4): the 40th is the last", y.told(4) - ahead, 40);

        DeltaCycles z = Check.of("w0;w0;g0 0 0 1 0 0;g0 1 1 0 0 0;");
        Edge.due("step() without end", z.step(), 0);
        Edge.due("told(4)", z.told(4), 40);
        Edge.due("wire(0, 2): the 40th sets the wires, too", z.wire(0, 2), 40);
        Edge.due("wire(0, 0)", z.wire(0, 0), 0);

        // one step's count is not the next one's
        DeltaCycles u = Check.of("w0;");
        for (int i = 1; i <= 45; i++) {
            u.set(0, i % 2, 0);
            u.step();
        }
        Edge.due("wire(0, 2): 45 steps at one TIME", u.wire(0, 2), 45);
        Edge.due("told(5)", u.told(5), 0);
    }

    private static DeltaCycles endless() {
        DeltaCycles x = Check.of(GATED);
        x.run(30);
        x.set(3, 1, 1);
        x.set(0, 1, 2);
        x.set(4, 1, 2);
        x.set(3, 0, 3);
        x.run(1);
        return x;
    }

    private static void endlessIsEmpty() {
        Edge.says("Section 2 (promises 12 to 16)", "all QUEUES, and what waits BY HAND, are empty then, and nothing more happens till it is CALMED.");
        DeltaCycles x = endless();
        queueIs("a slow gate's, ahead", x, 2, 51, 0);
        Edge.due("told(10) ahead", x.told(10), 3);
        Edge.due("step()", x.step(), 32);
        Edge.due("told(5)", x.told(5), 1);
        for (int g = 0; g < 3; g++) {
            queueIs("then", x, g);
        }
        Edge.due("wire(4, 0) was set in it", x.wire(4, 0), 1);
        Edge.due("told(10)", x.told(10), 0);
        Edge.due("told(6)", x.told(6), 1);
        String then = Seen.world(x);
        Edge.due("step()", x.step(), DeltaCycles.NOT);
        Edge.due("run(200)", x.run(200), DeltaCycles.NOT);
        Edge.due("set(3, 1, 0)", x.set(3, 1, 0), DeltaCycles.NOT);
        Edge.due("drift(16)", x.drift(16), 32);
        Edge.same("nothing happened", Seen.world(x), then);
        Edge.due("calm()", x.calm(), 32);
        Edge.due("step()", x.step(), 32);
    }

    private static void begun() {
        Edge.says("Section 2 (promise 3)", "BEGUN: as the text is taken, TIME is 0; all GATES are TOLD what comes of the first LEVELS, at TIME 0.");
        DeltaCycles x = Check.of("w0;");
        x.run(200);
        Check.take(x, "w0;w1;w2;g0 0 0 2 0 0;g1 0 1 2 20 1;g0 1 1 2 1 0;g4 1 2 0 7 0;");
        Edge.due("told(3)", x.told(3), 0);
        queueIs("of DELAY 0", x, 0, 0, 1);
        queueIs("of DELAY 20", x, 1, 20, 0);
        queueIs("of DELAY 1", x, 2, 1, 0);
        queueIs("of KIND 4", x, 3, 7, 3);
        DeltaCycles y = Check.of("w1;w1;g2 0 0 1 3 0;");
        queueIs("of what it drives already", y, 0, 3, 1);

        Edge.says("Section 2 (promise 3)", "Nothing has happened yet.");
        Edge.due("told(4)", x.told(4), 0);
        Edge.due("told(8)", x.told(8), 0);
        for (int w = 0; w < 3; w++) {
            Edge.due("wire(" + w + ", 0)", x.wire(w, 0), w);
            Edge.due("wire(" + w + ", 2)", x.wire(w, 2), 0);
            Edge.due("wire(" + w + ", 3)", x.wire(w, 3), -1);
            Edge.due("wave(" + w + ", 0, 0)", x.wave(w, 0, 0), -1);
        }
        Edge.due("told(13)", x.told(13), 0);
    }

    private static void steps() {
        Edge.says("Section 2 (promise 12)", "STEP: TIME becomes the least TIME of anything that waits (by hand, too), no less than it is; all CYCLES at it.");
        DeltaCycles x = Check.of("w0;w0;w0;w0;g2 0 0 1 7 0;g2 0 0 2 20 0;g2 0 0 3 9 0;");
        x.set(0, 1, 8);
        Edge.due("step() to the first gate", x.step(), 7);
        Edge.due("step() to what is by hand", x.step(), 8);
        Edge.due("step() to the last gate", x.step(), 9);
        x.set(0, 0, 0);
        Edge.due("step() to what is by hand, at once", x.step(), 9);
        Edge.due("told(3)", x.told(3), 9);
        Edge.due("step()", x.step(), 15);
        Edge.due("step()", x.step(), 16);
        x.set(0, 3, 0);
        x.set(0, 2, 0);
        Edge.due("step()", x.step(), 16);
        Edge.due("both cycles at it: wire(0, 0)", x.wire(0, 0), 2);
        DeltaCycles y = Check.of("w0;w1;g0 0 0 1 0 0;");
        Edge.due("step() to TIME 0", y.step(), 0);
        y.run(200);
        y.set(0, 1, 20);
        Edge.due("step()", y.step(), 220);
    }

    private static void runs() {
        Edge.says("Section 2 (promise 13)", "RUN to t: STEPS, as long as something waits for t or earlier; then TIME is t.");
        DeltaCycles x = Check.of("w0;w0;g0 0 0 1 10 0;");
        x.set(0, 0, 11);
        Edge.due("run(9)", x.run(9), 0);
        Edge.due("told(3)", x.told(3), 9);
        Edge.due("wire(1, 0)", x.wire(1, 0), 0);
        Edge.due("run(1): it waits for t", x.run(1), 1);
        Edge.due("told(3)", x.told(3), 10);
        Edge.due("wire(1, 0)", x.wire(1, 0), 1);
        Edge.due("what waits for t and 1 waits still", x.told(10), 1);
        x.undo(2);
        Edge.due("run(10)", x.run(10), 1);
        x.undo(1);
        Edge.due("run(11)", x.run(11), 2);
        Edge.due("told(3)", x.told(3), 11);
        Edge.due("run(1) with nothing waiting", x.run(1), 0);
        Edge.due("told(3)", x.told(3), 12);
    }

    private static void byHand() {
        Edge.says("Section 2 (promise 14)", "BY HAND: a WIRE that no GATE drives is set to a LEVEL at TIME and D (0 .. 20; "
            + "it comes behind all else that waits by hand at that TIME;");
        DeltaCycles x = Check.of("w0;w0;w0;g0 0 0 2 1 0;");
        x.run(5);
        Edge.due("set(0, 1, 0)", x.set(0, 1, 0), 1);
        Edge.due("step()", x.step(), 5);
        Edge.due("wire(0, 3)", x.wire(0, 3), 5);
        x.run(5);
        Edge.due("set(0, 0, 20)", x.set(0, 0, 20), 1);
        Edge.due("set(0, 0, 21)", x.set(0, 0, 21), DeltaCycles.OUTSIDE);
        Edge.due("set(0, 0, -1)", x.set(0, 0, -1), DeltaCycles.OUTSIDE);
        Edge.due("set(2, 0, 20): a GATE drives it", x.set(2, 0, 20), DeltaCycles.NOT);
        Edge.due("step()", x.step(), 30);
        Edge.due("wire(0, 3)", x.wire(0, 3), 30);
        // behind those of its time, ahead of later ones, whenever it was told
        DeltaCycles y = Check.of("w0;w0;");
        y.set(0, 1, 5);
        y.set(0, 2, 3);
        y.set(0, 3, 5);
        y.set(0, 3, 3);
        y.set(0, 1, 4);
        y.run(2);
        y.set(0, 0, 3);
        y.set(0, 0, 1);
        int[] levels = {2, 3, 0, 1, 3, 0};
        int[] times = {3, 3, 3, 4, 5, 5};
        Edge.due("told(10)", y.told(10), 7);
        y.run(20);
        Edge.due("wire(0, 2): the 1 at 5 changes nothing", y.wire(0, 2), 6);
        for (int k = 0; k < 6; k++) {
            Edge.due("wave(0, " + (5 - k) + ", 1)", y.wave(0, 5 - k, 1), levels[k]);
            Edge.due("wave(0, " + (5 - k) + ", 0)", y.wave(0, 5 - k, 0), times[k]);
        }
        // eight wires, told from the last one's time on backward, with a level of its own each
        DeltaCycles z = Check.of("w0;w0;w0;w0;w0;w0;w0;w0;");
        for (int w = 0; w < 8; w++) {
            z.set(w, 1 + w % 3, 20 - 2 * w);
        }
        for (int w = 7; w >= 0; w--) {
            Edge.due("step()", z.step(), 20 - 2 * w);
            Edge.due("wire(" + w + ", 0)", z.wire(w, 0), 1 + w % 3);
            Edge.due("told(10)", z.told(10), w);
            Edge.due("the next one is not set yet", w == 0 ? 0 : z.wire(w - 1, 0), 0);
        }
    }

    private static void byHandAtMost() {
        Edge.says("Section 2 (promise 14)", "8 at most wait).");
        DeltaCycles x = Check.of("w0;w0;");
        for (int i = 1; i <= 7; i++) {
            Edge.due("set(0, 1, 20)", x.set(0, i % 2, 20), i);
        }
        Edge.due("the eighth", x.set(1, 1, 3), 8);
        Edge.due("the ninth", x.set(0, 1, 20), DeltaCycles.FULL);
        Edge.due("the ninth, ahead of all", x.set(1, 3, 0), DeltaCycles.FULL);
        Edge.due("told(10)", x.told(10), 8);
        Edge.due("step()", x.step(), 3);
        Edge.due("wire(1, 0)", x.wire(1, 0), 1);
        Edge.due("told(10)", x.told(10), 7);
        Edge.due("there is room for one again", x.set(1, 3, 20), 8);
        Edge.due("and for no more", x.set(1, 3, 20), DeltaCycles.FULL);
        Edge.due("run(20)", x.run(20), 2);
        Edge.due("wire(0, 2)", x.wire(0, 2), 7);
        Edge.due("wire(1, 0)", x.wire(1, 0), 3);
        Edge.due("told(10)", x.told(10), 0);
        Edge.due("set(0, 0, 0)", x.set(0, 0, 0), 1);
    }

    private static void changes() {
        Edge.says("Section 2 (promise 6)", "CHANGES of a WIRE: how many (9999 at most), when the last one was.");
        DeltaCycles x = Check.of("w0;w0;g0 0 0 0 1 0;");
        Edge.due("wire(0, 3) ahead of all", x.wire(0, 3), -1);
        x.run(1);
        Edge.due("wire(0, 2) of one", x.wire(0, 2), 1);
        Edge.due("wire(0, 3) of one", x.wire(0, 3), 1);
        for (int i = 0; i < 49; i++) {
            x.run(200);
        }
        x.run(197);
        Edge.due("wire(0, 2)", x.wire(0, 2), 9998);
        x.run(1);
        Edge.due("wire(0, 2)", x.wire(0, 2), 9999);
        Edge.due("wire(0, 3)", x.wire(0, 3), 9999);
        x.run(1);
        Edge.due("wire(0, 2) of 10000", x.wire(0, 2), 9999);
        Edge.due("wire(0, 3) goes on", x.wire(0, 3), 10000);
        Edge.due("wave(0, 0, 0) goes on", x.wave(0, 0, 0), 10000);
        Edge.due("wave(0, 7, 0)", x.wave(0, 7, 0), 9993);
        Edge.due("wire(0, 0)", x.wire(0, 0), 0);
        x.run(200);
        Edge.due("wire(0, 2)", x.wire(0, 2), 9999);
        Edge.due("wire(0, 3)", x.wire(0, 3), 10200);
        Edge.due("wire(1, 2) of one that never changed", x.wire(1, 2), 0);
        Edge.due("wire(1, 3)", x.wire(1, 3), -1);
    }

    private static void waves() {
        Edge.says("Section 2 (promise 7)", "WAVE: its last 8 CHANGES: TIME, LEVEL.");
        DeltaCycles x = Check.of("w0;w0;");
        int[] level = {1, 3, 0, 2, 1, 0, 2, 3, 0, 1, 2, 3, 0, 1, 3, 2, 0};
        for (int i = 0; i < level.length; i++) {
            x.set(0, level[i], 2);
            x.step();
            for (int k = 0; k < 10; k++) {
                boolean there = k < 8 && k <= i;
                Edge.due("wave(0, " + k + ", 0) of " + (i + 1), x.wave(0, k, 0), there ? 2 * (i - k + 1) : -1);
                Edge.due("wave(0, " + k + ", 1) of " + (i + 1), x.wave(0, k, 1), there ? level[i - k] : -1);
            }
        }
        x.set(0, 0, 1);
        x.step();
        Edge.due("set to what it is, it has not changed: wave(0, 0, 0)", x.wave(0, 0, 0), 34);
        Edge.due("wave(1, 0, 0) of one that never changed", x.wave(1, 0, 0), -1);
    }

    private static void flicker() {
        Edge.says("Section 2 (promise 5)", "FLICKER: a WIRE that changed more than once at one TIME, ever.");
        DeltaCycles x = Check.of("w0;w0;w0;w0;w0;w0;w0;w0;");
        x.set(0, 1, 1);
        x.set(0, 1, 1);
        x.set(1, 1, 1);
        x.set(1, 0, 2);
        x.run(2);
        Edge.due("told(8): once at each TIME", x.told(8), 0);
        x.set(7, 1, 1);
        x.set(7, 2, 1);
        x.step();
        Edge.due("told(8): wire 7 twice at 3", x.told(8), 128);
        x.set(0, 2, 2);
        x.step();
        x.set(0, 0, 0);
        x.step();
        Edge.due("told(8): wire 0 in two steps at 5", x.told(8), 129);
        x.run(200);
        x.set(7, 1, 0);
        x.step();
        Edge.due("told(8): ever", x.told(8), 129);
        DeltaCycles y = Check.of("w0;");
        y.set(0, 1, 0);
        y.step();
        Edge.due("told(8): a first change at TIME 0", y.told(8), 0);
        y.set(0, 0, 0);
        y.step();
        Edge.due("told(8): a second one at TIME 0", y.told(8), 1);
    }

    private static void calmed() {
        Edge.says("Section 2 (promise 15)", "CALMED: nothing is ENDLESS; all GATES are TOLD what comes of the LEVELS, at TIME.");
        DeltaCycles x = endless();
        x.step();
        int[] comes = {x.gate(0, 7), x.gate(1, 7), x.gate(2, 7)};
        Edge.due("calm()", x.calm(), 32);
        Edge.due("told(5)", x.told(5), 0);
        Edge.due("told(6)", x.told(6), 0);
        queueIs("of DELAY 0", x, 0, 32, comes[0]);
        queueIs("of DELAY 0", x, 1, 32, comes[1]);
        queueIs("of DELAY 20", x, 2, 52, comes[2]);
        Edge.due("what waited by hand is gone: told(10)", x.told(10), 0);
        Edge.due("it may be endless again", x.step() == 32 ? x.told(5) : -1, 1);
        x.calm();
        x.set(0, 0, 0);
        x.step();
        Edge.due("or have an end", x.told(5), 0);
        Edge.due("wire(1, 0)", x.wire(1, 0), 0);
        Edge.due("wire(2, 0)", x.wire(2, 0), 1);
    }

    private static void stepCall() {
        Edge.says("Promise 12", "A STEP: TIME.");
        DeltaCycles x = Check.of("w0;w0;g0 0 0 1 20 0;");
        x.set(0, 0, 0);
        Edge.due("step()", x.step(), 0);
        Edge.due("step()", x.step(), 20);
        Edge.due("told(13): each is a deed", x.told(13), 3);

        Edge.says("Promise 12", "NOT: all is STILL, or it is ENDLESS.");
        Edge.due("step() while STILL", x.step(), DeltaCycles.NOT);
        Edge.due("told(13)", x.told(13), 3);
        Edge.due("step() of a new object", new DeltaCycles().step(), DeltaCycles.NOT);
        DeltaCycles y = endless();
        y.step();
        Edge.due("step() while ENDLESS", y.step(), DeltaCycles.NOT);
        y.calm();
        Edge.due("step() once CALMED", y.step(), 32);
    }

    private static void runCall() {
        Edge.says("Promise 13", "RUN to TIME and n (1 .. 200): how many STEPS.");
        DeltaCycles x = Check.of("w0;w0;g0 0 0 0 1 0;");
        Edge.due("run(1)", x.run(1), 1);
        Edge.due("told(3)", x.told(3), 1);
        Edge.due("run(200)", x.run(200), 200);
        Edge.due("told(3)", x.told(3), 201);
        x.set(1, 1, 0);
        Edge.due("run(200), with a step at the TIME it begins at", x.run(200), 201);
        Edge.due("told(3)", x.told(3), 401);
        x.set(1, 0, 0);
        Edge.due("run(1)", x.run(1), 2);
        Edge.due("told(13)", x.told(13), 6);

        Edge.says("Promise 13", "OUTSIDE, NOT: it is ENDLESS.");
        int[] off = {0, -1, 201, 202, Integer.MIN_VALUE, Integer.MAX_VALUE};
        DeltaCycles y = endless();
        for (int n : off) {
            Edge.due("run(" + n + ")", y.run(n), DeltaCycles.OUTSIDE);
            Edge.due("told(3)", y.told(3), 31);
        }
        y.step();
        for (int n : off) {
            Edge.due("run(" + n + ") while ENDLESS", y.run(n), DeltaCycles.OUTSIDE);
        }
        Edge.due("run(1) while ENDLESS", y.run(1), DeltaCycles.NOT);
        Edge.due("run(200) while ENDLESS", y.run(200), DeltaCycles.NOT);
        Edge.due("told(3)", y.told(3), 32);
        y.calm();
        Edge.due("run(1) once CALMED", y.run(1), 1);
    }

    private static void runEnds() {
        Edge.says("Promise 13", "(It ends, if it becomes ENDLESS: TIME is that then.)");
        DeltaCycles x = Check.of(GATED);
        x.set(3, 1, 2);
        x.set(0, 1, 7);
        x.set(3, 0, 8);
        Edge.due("run(200): 0, 2, 7", x.run(200), 3);
        Edge.due("told(3)", x.told(3), 7);
        Edge.due("told(5)", x.told(5), 1);
        Edge.due("told(10)", x.told(10), 0);
        Edge.due("undo(1): the run is one deed", x.undo(1), 0);
        x.undo(2);
        x.set(0, 1, 6);
        Edge.due("run(7): ENDLESS ahead of its last TIME", x.run(7), 3);
        Edge.due("told(3)", x.told(3), 6);
        x.undo(2);
        x.set(0, 1, 7);
        Edge.due("run(7): ENDLESS at its last TIME", x.run(7), 3);
        Edge.due("told(3)", x.told(3), 7);
        Edge.due("told(5)", x.told(5), 1);
        x.undo(1);
        Edge.due("run(6): ENDLESS behind it", x.run(6), 2);
        Edge.due("told(3)", x.told(3), 6);
        Edge.due("told(5)", x.told(5), 0);
    }

    private static void setCall() {
        Edge.says("Promise 14", "Set BY HAND at TIME and d (0 .. 20): how many wait BY HAND.");
        for (int d = 0; d <= 20; d++) {
            DeltaCycles x = Check.of("w0;w0;");
            x.run(3);
            Edge.due("set(1, 3, " + d + ")", x.set(1, 3, d), 1);
            Edge.due("set(0, 1, 20)", x.set(0, 1, 20), 2);
            Edge.due("wire(1, 0) is not set yet", x.wire(1, 0), 0);
            Edge.due("told(13)", x.told(13), 3);
            Edge.due("step()", x.step(), 3 + d);
            Edge.due("wire(1, 0)", x.wire(1, 0), 3);
            Edge.due("wire(0, 0)", x.wire(0, 0), d == 20 ? 1 : 0);
        }
    }

    private static void setRefused() {
        Edge.says("Promise 14", "UNKNOWN (WIRE, LEVEL), OUTSIDE, NOT: a GATE drives it, it is ENDLESS; FULL (8).");
        DeltaCycles x = Check.of("w0;w0;g0 0 0 1 1 0;");
        int[] none = {-1, 2, 8, Integer.MIN_VALUE, Integer.MAX_VALUE};
        for (int w : none) {
            Edge.due("set(" + w + ", 0, 0)", x.set(w, 0, 0), DeltaCycles.UNKNOWN);
            Edge.due("set(" + w + ", 9, 99)", x.set(w, 9, 99), DeltaCycles.UNKNOWN);
        }
        int[] noLevel = {-1, 4, Integer.MIN_VALUE, Integer.MAX_VALUE};
        for (int level : noLevel) {
            Edge.due("set(0, " + level + ", 0)", x.set(0, level, 0), DeltaCycles.UNKNOWN);
            Edge.due("set(0, " + level + ", 21)", x.set(0, level, 21), DeltaCycles.UNKNOWN);
            Edge.due("set(1, " + level + ", 0)", x.set(1, level, 0), DeltaCycles.UNKNOWN);
        }
        int[] off = {-1, 21, Integer.MIN_VALUE, Integer.MAX_VALUE};
        for (int d : off) {
            Edge.due("set(0, 0, " + d + ")", x.set(0, 0, d), DeltaCycles.OUTSIDE);
            Edge.due("set(1, 0, " + d + ")", x.set(1, 0, d), DeltaCycles.OUTSIDE);
        }
        Edge.due("set(1, 0, 0): a GATE drives it", x.set(1, 0, 0), DeltaCycles.NOT);
        Edge.due("told(10)", x.told(10), 0);
        Edge.due("told(13)", x.told(13), 0);
        for (int i = 1; i <= 8; i++) {
            Edge.due("set(0, 1, 5)", x.set(0, 1, 5), i);
        }
        Edge.due("the ninth", x.set(0, 1, 5), DeltaCycles.FULL);
        Edge.due("the ninth, of no WIRE", x.set(2, 1, 5), DeltaCycles.UNKNOWN);
        Edge.due("the ninth, of no LEVEL", x.set(0, 4, 5), DeltaCycles.UNKNOWN);
        Edge.due("the ninth, too late", x.set(0, 1, 21), DeltaCycles.OUTSIDE);
        Edge.due("the ninth, driven", x.set(1, 1, 5), DeltaCycles.NOT);
        Edge.due("told(10)", x.told(10), 8);
        Edge.due("told(13)", x.told(13), 8);
        DeltaCycles y = endless();
        y.step();
        Edge.due("set(3, 1, 1) while ENDLESS", y.set(3, 1, 1), DeltaCycles.NOT);
        Edge.due("set(3, 1, 21) while ENDLESS", y.set(3, 1, 21), DeltaCycles.OUTSIDE);
        Edge.due("set(6, 1, 1) while ENDLESS", y.set(6, 1, 1), DeltaCycles.UNKNOWN);
        y.calm();
        Edge.due("set(3, 1, 1) once CALMED", y.set(3, 1, 1), 1);
    }

    private static void calmCall() {
        Edge.says("Promise 15", "CALMED: TIME.");
        DeltaCycles x = endless();
        x.step();
        int deeds = x.told(13);
        Edge.due("calm()", x.calm(), 32);
        Edge.due("told(13): it is a deed", x.told(13), deeds + 1);

        Edge.says("Promise 15", "NOT: it is not ENDLESS.");
        Edge.due("calm() again", x.calm(), DeltaCycles.NOT);
        Edge.due("told(13)", x.told(13), deeds + 1);
        Edge.due("calm() of a new object", new DeltaCycles().calm(), DeltaCycles.NOT);
        DeltaCycles y = Check.of("w0;w0;g0 0 0 1 3 0;");
        Edge.due("calm() while something waits", y.calm(), DeltaCycles.NOT);
        queueIs("nobody was told", y, 0, 3, 1);
        y.run(2);
        Edge.due("calm() later", y.calm(), DeltaCycles.NOT);
        queueIs("nobody was told", y, 0, 3, 1);
        y.run(5);
        Edge.due("calm() while STILL", y.calm(), DeltaCycles.NOT);
    }
}

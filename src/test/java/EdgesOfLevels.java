/** The edges of levels and kinds: the rest of section 1, and promises 10 and 11. */
final class EdgesOfLevels {
    private static final int LOOSE = 2;
    private static final int UNSURE = 3;
    private static final int[] NO_LEVEL = {-1, 4, 5, Integer.MIN_VALUE, Integer.MAX_VALUE};

    private EdgesOfLevels() {
    }

    static void all() {
        levels();
        looseWithAny();
        alike();
        allOthers();
        resolvedCall();
        looseIsUnsure();
        otherWayRound();
        and();
        or();
        either();
        through();
        keep();
        comesCall();
        kindZeroLooksAtOne();
        drivesAtFirst();
        drivenByAll();
        drivenByNone();
    }

    private static void resolves(int a, int b, int want) {
        DeltaCycles x = new DeltaCycles();
        Edge.due("resolved(" + a + ", " + b + ")", x.resolved(a, b), want);
        Edge.due("resolved(" + b + ", " + a + ")", x.resolved(b, a), want);
    }

    /** By the call, where it answers for this kind, and by a gate that was told so. */
    private static void comes(int kind, int a, int b, int drives, int want) {
        String of = kind + " of " + a + ", " + b;
        if (kind < 5) {
            Edge.due("comes(" + kind + ", " + a + ", " + b + ")", new DeltaCycles().comes(kind, a, b), want);
        }
        DeltaCycles x = Check.of("w" + a + ";w" + b + ";w" + drives + ";g" + kind + " 0 1 2 3 0;");
        Edge.due("gate(0, 7) of KIND " + of + ", driving " + drives, x.gate(0, 7), want);
        Edge.due("queue(0, 0, 1) of KIND " + of + ", driving " + drives, x.queue(0, 0, 1), want);
        x.step();
        Edge.due("the WIRE that KIND " + of + " drives, then", x.wire(2, 0), want);
    }

    private static void levels() {
        Edge.says("Section 1 (promises 6, 10, 14, 18)", "LEVELS: 0, 1, 2 (LOOSE), 3 (UNSURE).");
        DeltaCycles x = Check.of("w0;w1;w2;w3;");
        for (int level = 0; level < 4; level++) {
            Edge.due("wire(" + level + ", 0)", x.wire(level, 0), level);
            Edge.due("resolved(" + level + ", " + level + ")", x.resolved(level, level), level);
            Edge.due("write(0, " + level + ")", x.write(0, level), level + 1);
            Edge.due("set(0, " + level + ", 1)", x.set(0, level, 1), level + 1);
        }
        for (int level : NO_LEVEL) {
            Edge.due("resolved(" + level + ", 0)", x.resolved(level, 0), DeltaCycles.UNKNOWN);
            Edge.due("write(0, " + level + ")", x.write(0, level), DeltaCycles.UNKNOWN);
            Edge.due("set(0, " + level + ", 1)", x.set(0, level, 1), DeltaCycles.UNKNOWN);
        }
    }

    private static void looseWithAny() {
        Edge.says("Section 1 (promise 10)", "RESOLVED, one with another: LOOSE with any is that;");
        for (int level = 0; level < 4; level++) {
            resolves(LOOSE, level, level);
        }
    }

    private static void alike() {
        Edge.says("Section 1 (promise 10)", "alike ones are it;");
        for (int level = 0; level < 4; level++) {
            resolves(level, level, level);
        }
    }

    private static void allOthers() {
        Edge.says("Section 1 (promise 10)", "all others UNSURE.");
        resolves(0, 1, UNSURE);
        resolves(0, UNSURE, UNSURE);
        resolves(1, UNSURE, UNSURE);
    }

    private static void resolvedCall() {
        Edge.says("Promise 10", "Of two LEVELS: RESOLVED.");
        int[][] due = {{0, 3, 0, 3}, {3, 1, 1, 3}, {0, 1, 2, 3}, {3, 3, 3, 3}};
        for (int a = 0; a < 4; a++) {
            for (int b = 0; b < 4; b++) {
                Edge.due("resolved(" + a + ", " + b + ")", new DeltaCycles().resolved(a, b), due[a][b]);
            }
        }
        Edge.says("Promise 10", "UNKNOWN (a LEVEL that there is not).");
        for (int none : NO_LEVEL) {
            for (int level = -1; level < 5; level++) {
                resolves(none, level, DeltaCycles.UNKNOWN);
            }
        }
    }

    private static void looseIsUnsure() {
        Edge.says("Section 1 (promise 11)", "KINDS: what comes of the LEVELS a, b (LOOSE is UNSURE here):");
        DeltaCycles x = new DeltaCycles();
        for (int kind = 0; kind < 5; kind++) {
            for (int level = 0; level < 4; level++) {
                comes(kind, LOOSE, level, 0, x.comes(kind, UNSURE, level));
                comes(kind, level, LOOSE, 0, x.comes(kind, level, UNSURE));
            }
        }
        comes(5, LOOSE, 1, 0, UNSURE);
        comes(5, 1, LOOSE, 0, 0);
    }

    private static void otherWayRound() {
        Edge.says("Section 1 (promise 11)", "0 the other way round: 0 of 1, 1 of 0, else UNSURE (b has no say);");
        for (int b = 0; b < 4; b++) {
            comes(0, 1, b, 2, 0);
            comes(0, 0, b, 2, 1);
            comes(0, LOOSE, b, 2, UNSURE);
            comes(0, UNSURE, b, 2, UNSURE);
        }
    }

    private static void and() {
        Edge.says("Section 1 (promise 11)", "1 and: 0, if one is 0; 1, if both are 1; else UNSURE;");
        for (int level = 0; level < 4; level++) {
            comes(1, 0, level, 2, 0);
            comes(1, level, 0, 2, 0);
        }
        comes(1, 1, 1, 2, 1);
        int[][] else3 = {{1, 2}, {2, 1}, {1, 3}, {3, 1}, {2, 2}, {2, 3}, {3, 2}, {3, 3}};
        for (int[] p : else3) {
            comes(1, p[0], p[1], 2, UNSURE);
        }
    }

    private static void or() {
        Edge.says("Section 1 (promise 11)", "2 or: 1, if one is 1; 0, if both are 0; else UNSURE;");
        for (int level = 0; level < 4; level++) {
            comes(2, 1, level, 2, 1);
            comes(2, level, 1, 2, 1);
        }
        comes(2, 0, 0, 2, 0);
        int[][] else3 = {{0, 2}, {2, 0}, {0, 3}, {3, 0}, {2, 2}, {2, 3}, {3, 2}, {3, 3}};
        for (int[] p : else3) {
            comes(2, p[0], p[1], 2, UNSURE);
        }
    }

    private static void either() {
        Edge.says("Section 1 (promise 11)", "3 either: UNSURE, if one is; else 1, if they are unlike, else 0;");
        for (int level = 0; level < 4; level++) {
            for (int unsure = 2; unsure < 4; unsure++) {
                comes(3, unsure, level, 2, UNSURE);
                comes(3, level, unsure, 2, UNSURE);
            }
        }
        comes(3, 0, 1, 2, 1);
        comes(3, 1, 0, 2, 1);
        comes(3, 0, 0, 2, 0);
        comes(3, 1, 1, 2, 0);
    }

    private static void through() {
        Edge.says("Section 1 (promise 11)", "4 through: LOOSE, if b is 0; a, if b is 1; else UNSURE;");
        int[] a1 = {0, 1, UNSURE, UNSURE};
        for (int a = 0; a < 4; a++) {
            comes(4, a, 0, 1, LOOSE);
            comes(4, a, 1, 1, a1[a]);
            comes(4, a, LOOSE, 1, UNSURE);
            comes(4, a, UNSURE, 1, UNSURE);
        }
    }

    private static void keep() {
        Edge.says("Section 1 (promise 8)", "5 keep: a, if b is 1; else what it drives now (LOOSE as it is).");
        int[] a1 = {0, 1, UNSURE, UNSURE};
        for (int a = 0; a < 4; a++) {
            for (int drives = 0; drives < 4; drives++) {
                comes(5, a, 1, drives, a1[a]);
                comes(5, a, 0, drives, drives);
                comes(5, a, LOOSE, drives, drives);
                comes(5, a, UNSURE, drives, drives);
            }
        }
        // what it drives now, not what its wire has: two drive wire 2
        DeltaCycles x = Check.of("w1;w0;w0;w1;g5 0 1 2 9 0;g4 3 3 2 1 0;");
        x.step();
        Edge.due("the WIRE is 0 with 1", x.wire(2, 0), UNSURE);
        Edge.due("gate(0, 7)", x.gate(0, 7), 0);
    }

    private static void comesCall() {
        Edge.says("Promise 11", "What comes of LEVELS by a KIND 0 .. 4.");
        int[][] of01 = {{1, 0, 1, 1, 0}, {0, 0, 1, 1, 2}};
        for (int kind = 0; kind < 5; kind++) {
            Edge.due("comes(" + kind + ", 0, 1)", new DeltaCycles().comes(kind, 0, 1), of01[0][kind]);
            Edge.due("comes(" + kind + ", 1, 0)", new DeltaCycles().comes(kind, 1, 0), of01[1][kind]);
        }
        Edge.says("Promise 11", "UNKNOWN (a LEVEL that there is not), OUTSIDE.");
        int[] kinds = {-1, 5, 6, Integer.MIN_VALUE, Integer.MAX_VALUE};
        for (int kind : kinds) {
            Edge.due("comes(" + kind + ", 0, 0)", new DeltaCycles().comes(kind, 0, 0), DeltaCycles.OUTSIDE);
            Edge.due("comes(" + kind + ", 3, 3)", new DeltaCycles().comes(kind, 3, 3), DeltaCycles.OUTSIDE);
            for (int none : NO_LEVEL) {
                Edge.due("comes(" + kind + ", " + none + ", 0)", new DeltaCycles().comes(kind, none, 0), DeltaCycles.UNKNOWN);
                Edge.due("comes(" + kind + ", 0, " + none + ")", new DeltaCycles().comes(kind, 0, none), DeltaCycles.UNKNOWN);
            }
        }
        for (int kind = 0; kind < 5; kind++) {
            for (int none : NO_LEVEL) {
                Edge.due("comes(" + kind + ", " + none + ", 0)", new DeltaCycles().comes(kind, none, 0), DeltaCycles.UNKNOWN);
                Edge.due("comes(" + kind + ", 0, " + none + ")", new DeltaCycles().comes(kind, 0, none), DeltaCycles.UNKNOWN);
            }
        }
    }

    private static void kindZeroLooksAtOne() {
        Edge.says("Section 1 (promises 6, 8)", "A GATE of KIND 0 looks at A alone.");
        DeltaCycles x = Check.of("w0;w0;w1;g0 0 1 2 4 0;");
        Edge.due("wire(0, 4)", x.wire(0, 4), 1);
        Edge.due("wire(1, 4)", x.wire(1, 4), 0);
        Edge.due("gate(0, 2) is told all the same", x.gate(0, 2), 1);
        x.run(5);
        x.set(1, 1, 0);
        x.step();
        Edge.due("a change of B tells it nothing: gate(0, 8)", x.gate(0, 8), 0);
        x.set(0, 1, 0);
        x.step();
        Edge.due("a change of A does: gate(0, 8)", x.gate(0, 8), 1);
        for (int kind = 1; kind < 6; kind++) {
            DeltaCycles y = Check.of("w0;w0;w1;g" + kind + " 0 1 2 4 0;");
            Edge.due("wire(1, 4) of KIND " + kind, y.wire(1, 4), 1);
            y.run(5);
            y.set(1, 1, 0);
            y.step();
            Edge.due("a change of B tells KIND " + kind, y.gate(0, 8), 1);
        }
        DeltaCycles z = Check.of("w0;w0;g1 0 0 1 4 0;g0 0 0 1 4 0;");
        Edge.due("A and B alike is one look of each gate: wire(0, 4)", z.wire(0, 4), 2);
    }

    private static void drivesAtFirst() {
        Edge.says("Section 1 (promise 8)", "Each GATE DRIVES a LEVEL (at first that which the WIRE it drives was told).");
        for (int level = 0; level < 4; level++) {
            DeltaCycles x = Check.of("w1;w" + level + ";g0 0 0 1 3 0;g0 0 0 1 5 0;");
            Edge.due("gate(0, 6)", x.gate(0, 6), level);
            Edge.due("gate(1, 6)", x.gate(1, 6), level);
            x.run(2);
            Edge.due("gate(0, 6) ahead of its time", x.gate(0, 6), level);
            x.step();
            Edge.due("gate(0, 6) then", x.gate(0, 6), 0);
            Edge.due("gate(1, 6) is not due yet", x.gate(1, 6), level);
        }
    }

    private static void drivenByAll() {
        Edge.says("Section 1 (promises 6, 10)", "A WIRE that is driven by GATES has all that they DRIVE, RESOLVED;");
        // eight drive wire 3: wires 0, 1 and 2 are let through by others
        for (int a = 0; a < 2; a++) {
            for (int b = 0; b < 4; b++) {
                for (int level = 0; level < 4; level++) {
                    String text = "w" + a + ";w" + b + ";w1;w" + level + ";g4 0 2 3 1 0;g4 0 1 3 2 0;" + "g4 0 1 3 3 0;".repeat(6);
                    DeltaCycles x = Check.of(text);
                    Edge.due("wire(3, 0) of '" + text + "' at first", x.wire(3, 0), level);
                    x.step();
                    Edge.due("wire(3, 0) at 1", x.wire(3, 0), x.resolved(a, level));
                    x.run(5);
                    int let = b == 0 ? LOOSE : b == 1 ? a : UNSURE;
                    Edge.due("wire(3, 0) at 6", x.wire(3, 0), x.resolved(a, let));
                    Edge.due("wire(3, 1)", x.wire(3, 1), 8);
                }
            }
        }
    }

    private static void drivenByNone() {
        Edge.says("Section 1 (promises 6, 14)", "one that none drives keeps what it was set to.");
        for (int level = 0; level < 4; level++) {
            DeltaCycles x = Check.of("w" + (3 - level) + ";w0;g0 0 0 1 1 0;");
            x.run(200);
            Edge.due("wire(0, 0) as told", x.wire(0, 0), 3 - level);
            x.set(0, level, 20);
            x.run(19);
            Edge.due("wire(0, 0) ahead of the set", x.wire(0, 0), 3 - level);
            x.run(1);
            Edge.due("wire(0, 0) then", x.wire(0, 0), level);
            x.run(200);
            Edge.due("wire(0, 0) kept", x.wire(0, 0), level);
        }
    }
}

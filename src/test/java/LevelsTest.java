/** Promises 10 (resolved) and 11 (comes): every pair of levels, written out. */
public final class LevelsTest {
    private static final int[][] RESOLVED = {{0, 3, 0, 3}, {3, 1, 1, 3}, {0, 1, 2, 3}, {3, 3, 3, 3}};
    private static final int[][][] COMES = {
        {{1, 1, 1, 1}, {0, 0, 0, 0}, {3, 3, 3, 3}, {3, 3, 3, 3}},
        {{0, 0, 0, 0}, {0, 1, 3, 3}, {0, 3, 3, 3}, {0, 3, 3, 3}},
        {{0, 1, 3, 3}, {1, 1, 1, 1}, {3, 1, 3, 3}, {3, 1, 3, 3}},
        {{0, 1, 3, 3}, {1, 0, 3, 3}, {3, 3, 3, 3}, {3, 3, 3, 3}},
        {{2, 0, 3, 3}, {2, 1, 3, 3}, {2, 3, 3, 3}, {2, 3, 3, 3}}};

    public static void main(String[] args) {
        DeltaCycles x = new DeltaCycles();
        for (int a = 0; a < 4; a++) {
            for (int b = 0; b < 4; b++) {
                Check.due("resolved(" + a + ", " + b + ")", x.resolved(a, b), RESOLVED[a][b]);
                for (int kind = 0; kind < 5; kind++) {
                    Check.due("comes(" + kind + ", " + a + ", " + b + ")", x.comes(kind, a, b), COMES[kind][a][b]);
                }
            }
        }
        refusals(x);
        holdGate();
        Check.end("LevelsTest");
    }

    private static void refusals(DeltaCycles x) {
        int[] none = {-1, 4, Integer.MIN_VALUE, Integer.MAX_VALUE};
        for (int v : none) {
            Check.due("resolved(" + v + ", 0)", x.resolved(v, 0), DeltaCycles.UNKNOWN);
            Check.due("resolved(0, " + v + ")", x.resolved(0, v), DeltaCycles.UNKNOWN);
            Check.due("comes(1, " + v + ", 0)", x.comes(1, v, 0), DeltaCycles.UNKNOWN);
            Check.due("comes(0, 0, " + v + ")", x.comes(0, 0, v), DeltaCycles.UNKNOWN);
            Check.due("comes(9, 0, " + v + ")", x.comes(9, 0, v), DeltaCycles.UNKNOWN);
        }
        Check.due("comes(-1, 0, 0)", x.comes(-1, 0, 0), DeltaCycles.OUTSIDE);
        Check.due("comes(5, 0, 0)", x.comes(5, 0, 0), DeltaCycles.OUTSIDE);
    }

    /** Kind 5 cannot be asked by comes(), so it is asked of gates, for each a, b and what it drives. */
    private static void holdGate() {
        for (int a = 0; a < 4; a++) {
            for (int b = 0; b < 4; b++) {
                for (int drives = 0; drives < 4; drives++) {
                    DeltaCycles x = Check.of("w" + a + ";w" + b + ";w" + drives + ";g5 0 1 2 1 0;");
                    int due = b != 1 ? drives : a == 2 ? 3 : a;
                    Check.due("keep of " + a + ", " + b + ", driving " + drives, x.gate(0, 7), due);
                    Check.due("in its queue", x.queue(0, 0, 1), due);
                }
            }
        }
    }
}

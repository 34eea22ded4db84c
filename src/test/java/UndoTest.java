/** Promise 17 (undo). */
public final class UndoTest {
    public static void main(String[] args) {
        refusals();
        eachDeed();
        severalAtOnce();
        sixteenAtMost();
        allIsAsAhead();
        handAndFlicker();
        whatStays();
        Check.end("UndoTest");
    }

    private static void refusals() {
        DeltaCycles x = Check.of("w0;");
        x.run(5);
        int[] off = {0, -1, 17, Integer.MIN_VALUE, Integer.MAX_VALUE};
        for (int n : off) {
            Check.due("undo(" + n + ")", x.undo(n), DeltaCycles.OUTSIDE);
        }
        Check.due("undo(2) of one", x.undo(2), DeltaCycles.NOT);
        Check.due("nothing is undone", x.told(3), 5);
        Check.due("undo(1)", x.undo(1), 0);
        Check.due("undo(1) again", x.undo(1), DeltaCycles.NOT);
    }

    private static void eachDeed() {
        DeltaCycles x = Check.of("w0;w0;w1;g1 0 2 1 0 0;g0 1 1 2 0 0;");
        x.set(0, 1, 4);
        Check.due("a set undone", x.undo(1), 0);
        Check.due("none waits by hand", x.told(10), 0);
        x.set(0, 1, 4);
        x.step();
        Check.due("step()", x.step(), 4);
        Check.due("endless", x.told(5), 1);
        Check.due("calm()", x.calm(), 4);
        Check.due("a calm undone", x.undo(1), 4);
        Check.due("endless again", x.told(5), 1);
        Check.due("nothing waits again", x.told(6), 1);
        Check.due("a step undone", x.undo(1), 0);
        Check.due("not endless", x.told(5), 0);
        Check.due("what waits by hand is back", x.told(10), 1);
        Check.due("run(3)", x.run(3), 0);
        Check.due("a run undone", x.undo(1), 0);
        Check.due("drift(1)", x.drift(1), 4);
        Check.due("one of the times undone", x.undo(1), 0);
        Check.due("deeds left", x.told(13), 2);
    }

    private static void severalAtOnce() {
        DeltaCycles x = Check.of("w0;");
        for (int i = 1; i <= 9; i++) {
            x.run(i);
        }
        Check.due("time", x.told(3), 45);
        Check.due("undo(3)", x.undo(3), 21);
        Check.due("deeds left", x.told(13), 6);
        x.run(100);
        Check.due("undo(1)", x.undo(1), 21);
        Check.due("undo(6)", x.undo(6), 0);
        Check.due("none left", x.told(13), 0);
    }

    private static void sixteenAtMost() {
        DeltaCycles x = Check.of("w0;");
        for (int i = 1; i <= 21; i++) {
            x.run(1);
            Check.due("deeds kept of " + i, x.told(13), Math.min(i, 16));
        }
        Check.due("undo(16)", x.undo(16), 5);
        Check.due("none left", x.undo(1), DeltaCycles.NOT);
        for (int i = 0; i < 16; i++) {
            x.run(2);
        }
        for (int i = 15; i >= 0; i--) {
            Check.due("undo(1)", x.undo(1), 5 + 2 * i);
        }
    }

    private static final String BUSY = "w0;w1;w0;w2;g1 0 1 2 2 1;g3 0 2 3 1 0;g4 1 0 3 5 0;";

    /** What can be asked of levels, changes, waves and queues. */
    private static String all(DeltaCycles x) {
        StringBuilder s = new StringBuilder();
        for (int what = 3; what < 11; what++) {
            s.append(x.told(what)).append(' ');
        }
        for (int i = 0; i < 4; i++) {
            for (int what = 0; what < 10; what++) {
                s.append(x.wire(i, what)).append(' ').append(x.gate(i, what)).append(' ');
                for (int k = 0; k < 2; k++) {
                    s.append(x.wave(i, what, k)).append(' ').append(x.queue(i, what, k)).append(' ');
                }
            }
        }
        return s.toString();
    }

    private static void allIsAsAhead() {
        DeltaCycles x = Check.of(BUSY);
        x.seed(2026);
        String[] ahead = new String[40];
        for (int i = 0; i < ahead.length; i++) {
            ahead[i] = all(x);
            if (i % 4 == 0) {
                x.set(0, i / 4 % 2, i % 3);
            } else if (i % 4 == 1) {
                x.set(1, (i + 1) / 4 % 4, i % 3);
            } else if (i % 4 == 2) {
                x.run(2);
            } else {
                x.drift(1);
            }
        }
        Check.holds("a good deal happened", x.told(4) > 20);
        for (int i = ahead.length - 1; i >= ahead.length - 16; i--) {
            x.undo(1);
            Check.holds("all is as ahead of deed " + i, all(x).equals(ahead[i]));
        }
    }

    private static void handAndFlicker() {
        DeltaCycles x = Check.of("w0;w0;");
        x.set(0, 1, 1);
        x.set(0, 2, 1);
        x.set(1, 3, 1);
        x.step();
        Check.due("wire 0 flickers", x.told(8), 1);
        Check.due("undo(1)", x.undo(1), 0);
        Check.due("it has not flickered", x.told(8), 0);
        x.set(1, 1, 0);
        x.step();
        x.undo(2);
        x.run(5);
        Check.due("what waited by hand comes again: wire 0", x.wire(0, 0), 2);
        Check.due("its level ahead", x.wave(0, 1, 1), 1);
        Check.due("wire 1", x.wire(1, 0), 3);
    }

    private static void whatStays() {
        DeltaCycles x = Check.of("w0;w0;");
        x.set(0, 1, 0);
        x.feed('w');
        x.write(0, 1);
        x.write(1, 0);
        x.step();
        x.seed(9);
        Check.due("undo(2)", x.undo(2), 0);
        Check.due("the text stays", x.told(2), 1);
        Check.due("the book stays", x.told(11), 2);
        Check.due("and is judged by what is now", x.told(12), 0);
        Check.due("the seed stays", x.seed(0), 9);
        x.set(0, 1, 0);
        Check.due("wires() of a fault", x.wires(), -11);
        x.undo(1);
        Check.due("the fault stays", x.fault(), 1);
    }
}

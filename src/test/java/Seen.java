import java.util.function.Supplier;

/** All that can be seen of an object, so that two of them can be held against each other. */
final class Seen {
    private static final int REFUSED = DeltaCycles.UNKNOWN;

    private Seen() {
    }

    static boolean isRefusal(int answer) {
        return answer <= REFUSED;
    }

    /** What the calls that ask answer now; the seed is put back. */
    static String now(DeltaCycles x) {
        StringBuilder s = new StringBuilder("fault ").append(x.fault());
        int seed = x.seed(0);
        x.seed(seed);
        s.append(" seed ").append(seed);
        for (int what = 0; what < 14; what++) {
            s.append(what == 0 ? " told " : " ").append(x.told(what));
        }
        for (int w = 0; w < x.told(0); w++) {
            for (int what = 0; what < 5; what++) {
                s.append(what == 0 ? " wire " : " ").append(x.wire(w, what));
            }
            for (int k = 0; k < Math.min(8, x.wire(w, 2)); k++) {
                s.append(" at ").append(x.wave(w, k, 0)).append(" to ").append(x.wave(w, k, 1));
            }
        }
        for (int g = 0; g < x.told(1); g++) {
            for (int what = 0; what < 10; what++) {
                s.append(what == 0 ? " gate " : " ").append(x.gate(g, what));
            }
            for (int k = 0; k < x.gate(g, 8); k++) {
                s.append(" due ").append(x.queue(g, k, 0)).append(" to ").append(x.queue(g, k, 1));
            }
        }
        return s.toString();
    }

    /** But for the text, the book, the seed, the fault and what can be undone. */
    static String world(DeltaCycles x) {
        String all = now(x);
        return all.substring(all.indexOf(" told ")).replaceFirst(
            " told (\\S+) (\\S+) \\S+ (\\S+ \\S+ \\S+ \\S+ \\S+ \\S+ \\S+ \\S+) \\S+ \\S+ \\S+", " told $1 $2 $3");
    }

    /** What is hidden now, too: each of the ways it can come to light uses up an object of its own. */
    static String whole(Supplier<DeltaCycles> make) {
        StringBuilder s = new StringBuilder(now(make.get()));
        undone(s, make.get());
        goneOn(s, make.get());
        DeltaCycles read = make.get();
        s.append("\nread ").append(read.wires()).append(now(read));
        read.drift(2);
        s.append(now(read));
        for (int i = 0; i < 2; i++) {
            DeltaCycles back = make.get();
            s.append("\nback ").append(back.goBack(i)).append(now(back));
            goneOn(s, back);
        }
        return s.toString();
    }

    private static void undone(StringBuilder s, DeltaCycles x) {
        for (int i = 0; i < 17; i++) {
            int time = x.undo(1);
            s.append("\nundo ").append(time);
            if (isRefusal(time)) {
                return;
            }
            s.append(now(x));
        }
    }

    /** Steps bring to light what waits by hand, and each of them may make another entry of the book the first wrong one. */
    private static void goneOn(StringBuilder s, DeltaCycles x) {
        s.append("\non ").append(x.calm());
        for (int i = 0; i < 12; i++) {
            s.append(' ').append(x.step()).append(' ').append(x.told(12)).append(' ').append(x.told(10));
            for (int w = 0; w < x.told(0); w++) {
                s.append(' ').append(x.wire(w, 0));
            }
        }
        s.append(now(x));
    }
}

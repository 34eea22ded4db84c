/** Promises 18 (write) and 19 (tear), and WRONG. */
public final class BookTest {
    public static void main(String[] args) {
        writing();
        judging();
        refusals();
        Check.end("BookTest");
    }

    private static void writing() {
        DeltaCycles x = Check.of("w0;w1;");
        for (int i = 1; i <= 20; i++) {
            Check.due("write(1, 1)", x.write(1, 1), i);
        }
        Check.due("a 21st", x.write(1, 1), DeltaCycles.FULL);
        Check.due("a 21st of no wire", x.write(2, 1), DeltaCycles.UNKNOWN);
        Check.due("entries", x.told(11), 20);
        Check.due("no deed", x.told(13), 0);
        Check.due("none is wrong", x.told(12), DeltaCycles.NONE);
        Check.due("tear()", x.tear(), 20);
        Check.due("entries then", x.told(11), 0);
        Check.due("none is wrong", x.told(12), DeltaCycles.NONE);
        Check.due("tear() again", x.tear(), 0);
        Check.due("write(0, 3)", x.write(0, 3), 1);
        Check.due("it is wrong", x.told(12), 0);
        Check.due("tear() of one", x.tear(), 1);
    }

    private static void judging() {
        DeltaCycles x = Check.of("w0;w1;w2;w3;");
        for (int w = 0; w < 4; w++) {
            x.write(w, w);
        }
        x.write(0, 1);
        x.write(2, 3);
        Check.due("the first wrong one", x.told(12), 4);
        x.set(0, 1, 1);
        x.set(1, 0, 2);
        Check.due("not yet", x.told(12), 4);
        x.step();
        Check.due("wire 0 is 1 now", x.told(12), 0);
        x.undo(1);
        Check.due("and is not, undone", x.told(12), 4);
        x.keep(0);
        x.run(5);
        x.write(3, 3);
        x.goBack(0);
        Check.due("an image leaves the book", x.told(11), 7);
        Check.due("wires there are", Check.take(x, "w1;"), 1);
        Check.due("no book then", x.told(11), 0);
        Check.due("none is wrong", x.told(12), DeltaCycles.NONE);
    }

    private static void refusals() {
        DeltaCycles x = Check.of("w0;");
        int[] off = {-1, 4, Integer.MIN_VALUE, Integer.MAX_VALUE};
        for (int v : off) {
            Check.due("write(" + v + ", 0)", x.write(v, 0), DeltaCycles.UNKNOWN);
            Check.due("write(0, " + v + ")", x.write(0, v), DeltaCycles.UNKNOWN);
        }
        Check.due("write(1, 0)", x.write(1, 0), DeltaCycles.UNKNOWN);
        Check.due("entries", x.told(11), 0);
    }
}

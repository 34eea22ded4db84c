/** Promises 2 (feed), 3 (wires), 4 (fault). */
public final class TextTest {
    public static void main(String[] args) {
        feeding();
        soundTexts();
        cannotStand();
        numbersOutOfBounds();
        tooMany();
        loops();
        firstFaultIsTold();
        faultLeavesAll();
        textBeginsAnew();
        nothingIsLeftOver();
        endOfText();
        Check.end("TextTest");
    }

    private static void feeding() {
        DeltaCycles x = new DeltaCycles();
        Check.due("feed(-1)", x.feed(-1), DeltaCycles.OUTSIDE);
        Check.due("feed(256)", x.feed(256), DeltaCycles.OUTSIDE);
        Check.due("feed(least)", x.feed(Integer.MIN_VALUE), DeltaCycles.OUTSIDE);
        Check.due("letters after refusals", x.told(2), 0);
        Check.due("feed(0)", x.feed(0), 1);
        Check.due("feed(255)", x.feed(255), 2);
        for (int i = 3; i <= 200; i++) {
            Check.due("feed(32)", x.feed(32), i);
        }
        Check.due("feed(32) to a full text", x.feed(32), DeltaCycles.FULL);
        Check.due("feed(256) to a full text", x.feed(256), DeltaCycles.OUTSIDE);
        Check.due("letters of a full text", x.told(2), 200);
        Check.due("wires() of a letter that is none", x.wires(), -11);
        Check.due("its place", x.fault(), 0);
        Check.due("the text is empty then", x.told(2), 0);
        Check.due("and takes letters again", x.feed(32), 1);
    }

    private static void sound(String text, int wires, int gates) {
        DeltaCycles x = new DeltaCycles();
        Check.due("wires() of '" + text + "'", Check.take(x, text), wires);
        Check.due("fault() of '" + text + "'", x.fault(), DeltaCycles.NONE);
        Check.due("gates of '" + text + "'", x.told(1), gates);
        Check.due("letters left of '" + text + "'", x.told(2), 0);
    }

    private static void soundTexts() {
        sound("", 0, 0);
        sound("    ", 0, 0);
        sound("w0;", 1, 0);
        sound("  w  3  ;  ", 1, 0);
        sound("w03;w00;", 2, 0);
        sound("w0;w1;w2;w3;w0;w1;w2;w3;", 8, 0);
        sound("w0;g1 0 0 0 1 0;", 1, 1);
        sound("w0;g01 00 00 00 20 01;", 1, 1);
        sound("w0;w0;g5 0 0 1 0 1;", 2, 1);
        sound("w0;g1 0 0 0 1 0;w0;g 1  1 1 0  2 1 ;", 2, 2);
        String eight = "w0;w0;" + "g0 0 0 1 0 0;".repeat(8);
        sound(eight, 2, 8);
        DeltaCycles x = Check.of("w0;w0;w0;g05 00 01 02 20 1;");
        int[] due = {5, 0, 1, 2, 20, 1};
        for (int what = 0; what < due.length; what++) {
            Check.due("gate(0, " + what + ") of two figures", x.gate(0, what), due[what]);
        }
        sound(" ".repeat(197) + "w1;", 1, 0);
    }

    private static void faulty(String text, int number, int place) {
        DeltaCycles x = new DeltaCycles();
        Check.due("wires() of '" + text + "'", Check.take(x, text), -10 - number);
        Check.due("fault() of '" + text + "'", x.fault(), place);
        Check.due("letters left of '" + text + "'", x.told(2), 0);
        Check.due("wires there are of '" + text + "'", x.told(0), 0);
    }

    private static void cannotStand() {
        faulty("x", 1, 0);
        faulty(";", 1, 0);
        faulty("0", 1, 0);
        faulty("000", 1, 0);
        faulty("W0;", 1, 0);
        faulty("w", 1, 1);
        faulty("w   ", 1, 4);
        faulty("w;", 1, 1);
        faulty("w0", 1, 2);
        faulty("w0  ", 1, 4);
        faulty("w0;;", 1, 3);
        faulty("w0 0;", 1, 3);
        faulty("w0 000;", 1, 3);
        faulty("w-1;", 1, 1);
        faulty("ww0;", 1, 1);
        faulty("w0w0;", 1, 2);
        faulty("w0;g", 1, 4);
        faulty("w0;g1 0 0 0 1;", 1, 13);
        faulty("w0;g1 0 0 0 1 0", 1, 15);
        faulty("w0;g1 0 0 0 1 0 0;", 1, 16);
        faulty("w0;g1,0 0 0 1 0;", 1, 5);
        faulty("w0;\t", 1, 3);
    }

    private static void numbersOutOfBounds() {
        faulty("w4;", 2, 1);
        faulty("w99;", 2, 1);
        faulty("w 04;", 2, 2);
        faulty("w000;", 2, 1);
        faulty("w0000000000000000000000001;", 2, 1);
        faulty("w000", 2, 1);
        faulty("w4x", 2, 1);
        faulty("g0 0 0 0 1 0;", 2, 3);
        faulty("w0;g6 0 0 0 1 0;", 2, 4);
        faulty("w0;g1 1 0 0 1 0;", 2, 6);
        faulty("w0;g1 0 1 0 1 0;", 2, 8);
        faulty("w0;g0 0 1 0 1 0;", 2, 8);
        faulty("w0;g1 0 0 1 1 0;", 2, 10);
        faulty("w0;g1 0 0 0 21 0;", 2, 12);
        faulty("w0;g1 0 0 0 020 0;", 2, 12);
        faulty("w0;g1 0 0 0 20 2;", 2, 15);
        faulty("w0;g000 0 0 1 0;", 2, 4);
        // a wire told behind the gate is not told ahead
        faulty("w0;g1 0 0 1 1 0;w0;", 2, 10);
        // a loop's place with a number out of bounds has the lesser fault
        faulty("w0;g1 0 0 0 000 0;", 2, 12);
    }

    private static void tooMany() {
        String wires = "w0;w1;w2;w3;w0;w1;w2;w3;";
        faulty(wires + "w0;", 3, 24);
        faulty(wires + " w", 3, 25);
        faulty(wires + "w9;", 3, 24);
        String gates = "w0;w0;" + "g0 0 0 1 0 0;".repeat(8);
        faulty(gates + "g0 0 0 1 0 0;", 3, gates.length());
        faulty(gates + "  g7", 3, gates.length() + 2);
        sound(wires + "g0 0 0 7 0 0;", 8, 1);
        sound(gates + "w0;", 3, 8);
    }

    private static void loops() {
        faulty("w0;g0 0 0 0 0 0;", 4, 12);
        faulty("w0;w0;g1 0 1 0 0 0;", 4, 15);
        faulty("w0;w0;g1 0 1 1 0 0;", 4, 15);
        faulty("w0;w0;g1 0 1 1 00 0;", 4, 15);
        faulty("w0;w0;g5 0 1 1   0 9;", 4, 17);
        faulty("w0;w0;g0 1 0 1 0 0;", 4, 15);
        // kind 0 does not look at B
        sound("w0;w0;g0 0 1 1 0 0;", 2, 1);
        sound("w0;w0;g1 0 1 1 1 0;", 2, 1);
        sound("w0;w0;w0;g1 0 1 2 0 0;", 3, 1);
    }

    private static void firstFaultIsTold() {
        faulty("w4;x", 2, 1);
        faulty("x w4;", 1, 0);
        faulty("w0;g1 0 0 0 0 7", 4, 12);
        faulty("w0;g6 9 9 9 99 9", 2, 4);
    }

    private static void faultLeavesAll() {
        DeltaCycles x = Check.of("w0;w1;g0 0 0 1 3 0;");
        x.write(1, 0);
        x.keep(1);
        x.set(0, 1, 5);
        x.seed(77);
        Check.due("wires() of a fault", Check.take(x, "w1;w9;"), -12);
        Check.due("fault()", x.fault(), 4);
        Check.due("wires as they were", x.told(0), 2);
        Check.due("gates as they were", x.told(1), 1);
        Check.due("by hand as it was", x.told(10), 1);
        Check.due("the book as it was", x.told(11), 1);
        Check.due("what can be undone as it was", x.told(13), 1);
        Check.due("the first wire as it was", x.wire(0, 0), 0);
        Check.due("the seed as it was", x.seed(77), 77);
        Check.due("the image as it was", x.goBack(1), 1);
        Check.due("the fault is not the image's", x.fault(), 4);
        Check.due("wires() that is sound", Check.take(x, "w1;"), 1);
        Check.due("fault() then", x.fault(), DeltaCycles.NONE);
    }

    private static void textBeginsAnew() {
        DeltaCycles x = Check.of("w0;w1;w0;g0 0 0 2 0 0;");
        x.set(0, 1, 0);
        x.step();
        x.write(0, 1);
        x.keep(0);
        x.keep(1);
        x.seed(5);
        x.run(9);
        Check.due("wires() again", Check.take(x, "w2;w3;g4 0 0 1 2 1;"), 2);
        int[] due = {2, 1, 0, 0, 0, 0, 0, 1, 0, 1, 0, 0, DeltaCycles.NONE, 0};
        for (int what = 0; what < due.length; what++) {
            Check.due("told(" + what + ") after the next text", x.told(what), due[what]);
        }
        Check.due("changes are gone", x.wire(0, 2), 0);
        Check.due("so is the last one's time", x.wire(0, 3), DeltaCycles.NONE);
        Check.due("and the wave", x.wave(0, 0, 0), DeltaCycles.NONE);
        Check.due("image 0 is gone", x.goBack(0), DeltaCycles.NOT);
        Check.due("image 1 is gone", x.goBack(1), DeltaCycles.NOT);
        Check.due("nothing can be undone", x.undo(1), DeltaCycles.NOT);
        Check.due("the seed stays", x.seed(0), 5);
        Check.due("a gate drives what its wire was told", x.gate(0, 6), 3);
        Check.due("it was told at time 0", x.queue(0, 0, 0), 2);
    }

    /** Neither of the text ahead nor of the one ahead of that. */
    private static void nothingIsLeftOver() {
        DeltaCycles x = Check.of("w0;w0;w0;g0 0 0 1 0 0;g0 1 1 2 0 0;g0 2 2 0 0 0;");
        x.step();
        Check.due("endless", x.told(5), 1);
        Check.due("a next text", Check.take(x, "w0;w0;g2 0 0 1 9 0;g2 0 0 1 8 0;"), 2);
        Check.due("not endless", x.told(5), 0);
        Check.due("gates", x.told(1), 2);
        x.set(0, 1, 3);
        x.set(0, 0, 13);
        x.run(4);
        Check.due("a third text", Check.take(x, "w1;g0 0 0 0 2 0;"), 1);
        Check.due("gates", x.told(1), 1);
        Check.due("by hand", x.told(10), 0);
        Check.due("its queue", x.gate(0, 8), 1);
        Check.due("level", x.wire(0, 0), 1);
        Check.due("a fourth text", Check.take(x, "w3;"), 1);
        Check.due("no gates", x.told(1), 0);
        Check.due("still", x.told(6), 1);
        Check.due("wire(1, 0)", x.wire(1, 0), DeltaCycles.UNKNOWN);
        Check.due("gate(0, 0)", x.gate(0, 0), DeltaCycles.UNKNOWN);
    }

    private static void endOfText() {
        DeltaCycles x = Check.of("w0;w1;");
        Check.due("a shorter text", Check.take(x, "w0"), -11);
        Check.due("ends where it ends", x.fault(), 2);
        faulty(" ".repeat(198) + "w0", 1, 200);
        faulty(" ".repeat(199) + "w", 1, 200);
        faulty(" ".repeat(196) + "w000", 2, 197);
        sound(" ".repeat(200), 0, 0);
    }
}

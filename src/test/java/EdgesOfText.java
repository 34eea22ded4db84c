/** The edges of the text: section 1 up to the empty text, and promises 1 to 4. */
final class EdgesOfText {
    private static final String EIGHT_WIRES = "w0;w1;w2;w3;w0;w1;w2;w3;";
    private static final String EIGHT_GATES = "w0;w0;" + "g0 0 0 1 0 0;".repeat(8);

    private EdgesOfText() {
    }

    static void all() {
        newObject();
        callsOfAnObject();
        letters();
        lettersAtMost();
        wireClause();
        gateClause();
        figures();
        words();
        blanks();
        sideBySide();
        firstFault();
        cannotStand();
        numberFaults();
        tooMany();
        loops();
        emptyTexts();
        taken();
        refusedText();
        faultPlaces();
    }

    private static void sound(String text, int wires, int gates) {
        DeltaCycles x = new DeltaCycles();
        Edge.due("wires() of '" + text + "'", Check.take(x, text), wires);
        Edge.due("fault() of '" + text + "'", x.fault(), DeltaCycles.NONE);
        Edge.due("WIRES of '" + text + "'", x.told(0), wires);
        Edge.due("GATES of '" + text + "'", x.told(1), gates);
    }

    private static void faulty(String text, int number, int place) {
        DeltaCycles x = new DeltaCycles();
        Edge.due("wires() of '" + text + "'", Check.take(x, text), -10 - number);
        Edge.due("fault() of '" + text + "'", x.fault(), place);
    }

    private static void newObject() {
        Edge.says("Promise 1", "Nothing.");
        DeltaCycles x = new DeltaCycles();
        int[] due = {0, 0, 0, 0, 0, 0, 1, 0, 0, 0, 0, 0, -1, 0};
        for (int what = 0; what < due.length; what++) {
            Edge.due("told(" + what + ")", x.told(what), due[what]);
        }
        Edge.due("fault()", x.fault(), -1);
        Edge.due("wire(0, 0)", x.wire(0, 0), DeltaCycles.UNKNOWN);
        Edge.due("gate(0, 0)", x.gate(0, 0), DeltaCycles.UNKNOWN);
        Edge.due("step()", x.step(), DeltaCycles.NOT);
        Edge.due("undo(1)", x.undo(1), DeltaCycles.NOT);
        Edge.due("goBack(0)", x.goBack(0), DeltaCycles.NOT);
        Edge.due("goBack(1)", x.goBack(1), DeltaCycles.NOT);
        Edge.due("tear()", x.tear(), 0);
        Edge.due("seed(0)", x.seed(0), 0);
    }

    private static void callsOfAnObject() {
        Edge.says("What it is (promises 1, 13)", "An object is used for at most 512 calls after it has been made");
        DeltaCycles x = new DeltaCycles();
        x.feed('w');
        x.feed('0');
        x.feed(';');
        Edge.due("the 4th call: wires()", x.wires(), 1);
        for (int call = 5; call <= 511; call++) {
            x.run(200);
        }
        Edge.due("the 512th call: told(3)", x.told(3), 507 * 200);
    }

    private static void letters() {
        Edge.says("Promise 2", "A letter (0 .. 255) comes behind THE TEXT: how many it has.");
        DeltaCycles x = new DeltaCycles();
        Edge.due("feed(0)", x.feed(0), 1);
        Edge.due("feed(255)", x.feed(255), 2);
        Edge.due("feed(1)", x.feed(1), 3);
        Edge.due("feed(254)", x.feed(254), 4);
        Edge.due("told(2)", x.told(2), 4);
        Edge.due("wires() of letters that are none", x.wires(), -11);
        Edge.due("feed('w') to the text that is empty then", x.feed('w'), 1);
        x.feed('2');
        x.feed(';');
        Edge.due("wires()", x.wires(), 1);
        Edge.due("each comes behind the one ahead: wire(0, 0)", x.wire(0, 0), 2);
        for (int letter = 0; letter < 256; letter++) {
            if (letter != ' ' && letter != 'w' && letter != 'g') {
                DeltaCycles y = new DeltaCycles();
                y.feed(' ');
                y.feed(letter);
                Edge.due("wires() of the letter " + letter + " alone", y.wires(), -11);
                Edge.due("its place", y.fault(), 1);
            }
        }
    }

    private static void lettersAtMost() {
        Edge.says("Promise 2", "OUTSIDE, FULL (200).");
        DeltaCycles x = new DeltaCycles();
        int[] off = {-1, 256, Integer.MIN_VALUE, Integer.MAX_VALUE, 256 + 'w'};
        for (int letter : off) {
            Edge.due("feed(" + letter + ")", x.feed(letter), DeltaCycles.OUTSIDE);
            Edge.due("told(2) then", x.told(2), 0);
        }
        for (int i = 1; i <= 197; i++) {
            x.feed(' ');
        }
        Edge.due("the 198th letter", x.feed('w'), 198);
        Edge.due("the 199th letter", x.feed('3'), 199);
        Edge.due("the 200th letter", x.feed(';'), 200);
        Edge.due("the 201st letter", x.feed('x'), DeltaCycles.FULL);
        Edge.due("once more", x.feed(' '), DeltaCycles.FULL);
        Edge.due("feed(256) to a full text", x.feed(256), DeltaCycles.OUTSIDE);
        Edge.due("feed(-1) to a full text", x.feed(-1), DeltaCycles.OUTSIDE);
        Edge.due("told(2)", x.told(2), 200);
        Edge.due("wires(): what was refused is not in it", x.wires(), 1);
        Edge.due("wire(0, 0)", x.wire(0, 0), 3);
        Edge.due("the next letter", x.feed(' '), 1);

        Edge.says("Section 1 (promises 2, 3)", "All is told in a text (200 letters at most): clauses:");
        String most = " ".repeat(200 - 24 - 8 * 14) + EIGHT_WIRES.replace('2', '1') + "g5 0 1 7 20 1;".repeat(8);
        sound(most + " ".repeat(200 - most.length()), 8, 8);
        Edge.due("letters of it", most.length(), 136 + 64);
        faulty(" ".repeat(198) + "w1;", 1, 200);
        sound(" ".repeat(197) + "w1;w1;", 1, 0);
    }

    private static void wireClause() {
        Edge.says("Section 1 (promise 3)", "'w' V ';' (a WIRE with LEVEL V at first, 0 .. 3; 8 at most)");
        DeltaCycles x = Check.of(EIGHT_WIRES);
        for (int w = 0; w < 8; w++) {
            Edge.due("wire(" + w + ", 0)", x.wire(w, 0), w % 4);
        }
        Edge.due("wire(8, 0)", x.wire(8, 0), DeltaCycles.UNKNOWN);
        sound("w3;", 1, 0);
        faulty("w4;", 2, 1);
        faulty("w-1;", 1, 1);
        sound(EIGHT_WIRES, 8, 0);
        faulty(EIGHT_WIRES + "w0;", 3, 24);
    }

    private static void gateClause() {
        Edge.says("Section 1 (promises 3, 8)", "'g' K A B C D M ';' (a GATE of KIND K 0 .. 5 that looks at WIRES A, B and drives WIRE C, "
            + "DELAY D 0 .. 20, MODE M 0, 1; WIRES told ahead; 8 at most).");
        String[] numbers = {"0", "0", "0", "2", "0", "0"};
        int[] last = {5, 2, 2, 2, 20, 1};
        for (int i = 0; i < 6; i++) {
            String[] least = {"5", "0", "1", "2", "1", "1"};
            least[i] = "0";
            gateIs(least);
            String[] most = {"1", "0", "1", "2", "1", "0"};
            most[i] = Integer.toString(last[i]);
            gateIs(most);
            String[] beyond = numbers.clone();
            beyond[i] = Integer.toString(last[i] + 1);
            faulty("w0;w0;w0;g" + String.join(" ", beyond) + ";", 2, 10 + 2 * i);
            String[] below = numbers.clone();
            below[i] = "-1";
            faulty("w0;w0;w0;g" + String.join(" ", below) + ";", 1, 10 + 2 * i);
        }
        // a wire told behind the gate is not told ahead
        faulty("w0;w0;g0 0 0 2 0 0;w0;", 2, 13);
        sound("w0;w0;w0;g0 0 0 2 0 0;", 3, 1);
        sound("w0;g0 0 0 0 1 0;w0;g0 1 1 0 1 0;", 2, 2);
        sound(EIGHT_GATES, 2, 8);
        faulty(EIGHT_GATES + "g0 0 0 1 0 0;", 3, EIGHT_GATES.length());
    }

    private static void gateIs(String[] numbers) {
        String text = "w0;w0;w0;g" + String.join(" ", numbers) + ";";
        DeltaCycles x = new DeltaCycles();
        Edge.due("wires() of '" + text + "'", Check.take(x, text), 3);
        for (int what = 0; what < 6; what++) {
            Edge.due("gate(0, " + what + ") of '" + text + "'", x.gate(0, what), Integer.parseInt(numbers[what]));
        }
    }

    private static void figures() {
        Edge.says("Section 1 (promise 3)", "NUMBERS have one or two figures;");
        sound("w3;w03;", 2, 0);
        sound("w0;g05 00 00 00 01 01;", 1, 1);
        DeltaCycles x = Check.of("w00;w01;w02;w03;g03 01 00 02 09 00;");
        int[] due = {3, 1, 0, 2, 9, 0};
        for (int what = 0; what < due.length; what++) {
            Edge.due("gate(0, " + what + ")", x.gate(0, what), due[what]);
        }
        for (int w = 0; w < 4; w++) {
            Edge.due("wire(" + w + ", 0)", x.wire(w, 0), w);
        }
        faulty("w003;", 2, 1);
        faulty("w0;g1 0 0 0 001 0;", 2, 12);
    }

    private static void words() {
        Edge.says("Section 1 (promise 3)", "a word is one letter;");
        faulty("ww0;", 1, 1);
        faulty("w w0;", 1, 2);
        faulty("w0;gg0 0 0 0 1 0;", 1, 4);
        faulty("wire0;", 1, 1);
        faulty("W0;", 1, 0);
        faulty("w0;G0 0 0 0 1 0;", 1, 3);
        sound("w0;g0 0 0 0 1 0;", 1, 1);
    }

    private static void blanks() {
        Edge.says("Section 1 (promise 3)", "blanks (32) may stand anywhere but within NUMBERS;");
        sound("   w   0   ;   g   0   0   0   0   1   0   ;   ", 1, 1);
        sound(" w0;", 1, 0);
        sound("w 0;", 1, 0);
        sound("w0 ;", 1, 0);
        sound("w0; ", 1, 0);
        faulty("w0 3;", 1, 3);
        faulty("w0;g0 0 0 0 1 0 1;", 1, 16);
        faulty("w0;g0 0 0 0 2 0 0;", 1, 16);
        int[] others = {0, 9, 10, 13, 31, 33, 160, 255};
        for (int letter : others) {
            faulty("w0;" + (char) letter, 1, 3);
            faulty("w" + (char) letter + "0;", 1, 1);
            faulty("w0" + (char) letter + ";", 1, 2);
            faulty("w0;g0" + (char) letter + "0 0 0 1 0;", 1, 5);
        }
    }

    private static void sideBySide() {
        Edge.says("Section 1 (promise 3)", "two NUMBERS side by side need one.");
        sound("w0;w0;g0 0 0 1 0 0;", 2, 1);
        sound("w0;w0;g0  0  0  1  0  0;", 2, 1);
        // without a blank they are one number
        sound("w0;w0;g0 0 0 1 1 0;", 2, 1);
        faulty("w0;w0;g00 0 1 1 0;", 1, 17);
        faulty("w0;w0;g0 00 1 1 0;", 1, 17);
        faulty("w0;w0;g0 0 01 1 0;", 1, 17);
        faulty("w0;w0;g0 0 0 11 0;", 2, 13);
        faulty("w0;w0;g0 0 0 1 10;", 1, 17);
        faulty("w0;w0;g0 000 1 0;", 2, 9);
        faulty("w0;w0;g000100;", 2, 7);
    }

    private static void firstFault() {
        Edge.says("Section 1 (promises 3, 4)", "FAULTS, at the first letter that has one (the end at the text's length), of these the least:");
        faulty("w4;x", 2, 1);
        faulty("x;w4;", 1, 0);
        faulty("w0;w9;g7", 2, 4);
        faulty("w0;g6 9 9 9 99 9", 2, 4);
        faulty("w0;g1 0 0 0 0 7", 4, 12);
        faulty("w0;g1 0 0 0 0", 4, 12);
        faulty("w0;g1 0 9 0 0 0;", 2, 8);
        faulty(EIGHT_WIRES + "w9;", 3, 24);
        faulty(EIGHT_WIRES + "w", 3, 24);
        faulty("w9;" + EIGHT_WIRES + "w0;", 2, 1);
        // the end
        faulty("w", 1, 1);
        faulty("w0", 1, 2);
        faulty("w0;g", 1, 4);
        String gate = "w0;g1 0 0 0 1 0";
        for (int length = 4; length <= gate.length(); length++) {
            faulty(gate.substring(0, length), 1, length);
        }
        faulty("w   ", 1, 4);
        faulty(" ".repeat(199) + "w", 1, 200);
        faulty(" ".repeat(198) + "w0", 1, 200);
        // two faults at one letter: it cannot stand there and has three figures
        faulty("w0 000;", 1, 3);
        faulty("999", 1, 0);
        // a number of three figures and a loop
        faulty("w0;g1 0 0 0 000 0;", 2, 12);
        // a ninth that cannot stand there
        faulty(EIGHT_WIRES + "g w0;", 1, 26);
    }

    private static void cannotStand() {
        Edge.says("Section 1 (promises 3, 4)", "1 it cannot stand there.");
        String[] first = {";", "0", "x", "-", "v", "h"};
        for (String letter : first) {
            faulty(letter, 1, 0);
            faulty("w0;" + letter, 1, 3);
        }
        faulty("w;", 1, 1);
        faulty("wx", 1, 1);
        faulty("w0w0;", 1, 2);
        faulty("w0:", 1, 2);
        faulty("w0,", 1, 2);
        faulty("w0;;", 1, 3);
        String gate = "w0;g1 0 0 0 1 0;";
        for (int place = 4; place < gate.length(); place++) {
            if (gate.charAt(place) != ' ') {
                faulty(gate.substring(0, place) + "g" + gate.substring(place + 1), 1, place);
                if (gate.charAt(place) != ';') {
                    faulty(gate.substring(0, place) + ";" + gate.substring(place + 1), 1, place);
                }
            }
        }
        // the letters next to the figures
        faulty("w/;", 1, 1);
        faulty("w:;", 1, 1);
    }

    private static void numberFaults() {
        Edge.says("Section 1 (promises 3, 4)", "2 a NUMBER of three figures or more, or out of its bounds; a WIRE that there is not (at its first).");
        sound("w03;", 1, 0);
        faulty("w000;", 2, 1);
        faulty("w  0003;", 2, 3);
        faulty("w4294967296;", 2, 1);
        faulty("w00000000000000000000000000000000;", 2, 1);
        faulty("w04;", 2, 1);
        faulty("w10;", 2, 1);
        faulty("w99;", 2, 1);
        faulty("w0;g1 0 0 0 20 000;", 2, 15);
        faulty("w0;g06 0 0 0 1 0;", 2, 4);
        faulty("w0;g1 0 0 0 21 0;", 2, 12);
        faulty("w0;g1 0 0 0 99 0;", 2, 12);
        faulty("w0;g1 0 0 0 1 02;", 2, 14);
        faulty("w0;g1 01 0 0 1 0;", 2, 6);
        faulty("w0;g1  1 0 0 1 0;", 2, 7);
        faulty("w0;g1 0 10 0 1 0;", 2, 8);
        faulty("w0;g0 0 1 0 1 0;", 2, 8);
        faulty("w0;g1 0 0 1 1 0;", 2, 10);
        faulty("g0 0 0 0 1 0;", 2, 3);
        sound(EIGHT_WIRES + "g3 7 7 7 1 0;", 8, 1);
        faulty(EIGHT_WIRES + "g3 8 7 7 1 0;", 2, 27);
        faulty(EIGHT_WIRES + "g3 7 8 7 1 0;", 2, 29);
        faulty(EIGHT_WIRES + "g3 7 7 8 1 0;", 2, 31);
    }

    private static void tooMany() {
        Edge.says("Section 1 (promises 3, 4)", "3 a ninth WIRE, GATE (at the word).");
        sound(EIGHT_WIRES, 8, 0);
        faulty(EIGHT_WIRES + "w0;", 3, 24);
        faulty(EIGHT_WIRES + "   w0;", 3, 27);
        faulty(EIGHT_WIRES + "g0 0 0 7 0 0;w0;", 3, 37);
        sound(EIGHT_GATES, 2, 8);
        faulty(EIGHT_GATES + "g", 3, 110);
        faulty(EIGHT_GATES + " g0 0 0 1 0 0;", 3, 111);
        faulty(EIGHT_GATES + "w0;g0 0 0 1 0 0;", 3, 113);
        sound(EIGHT_GATES + "w0;w0;w0;w0;w0;w0;", 8, 8);
        faulty(EIGHT_GATES + "w0;w0;w0;w0;w0;w0;w0;", 3, 128);
    }

    private static void loops() {
        Edge.says("Section 1 (promises 3, 4)", "4 a GATE that drives a WIRE that it looks at, with DELAY 0 (at its D).");
        for (int kind = 0; kind < 6; kind++) {
            faulty("w0;w0;g" + kind + " 1 0 1 0 0;", 4, 15);
            faulty("w0;w0;g" + kind + " 1 1 1 00 0;", 4, 15);
            sound("w0;w0;g" + kind + " 1 0 1 1 0;", 2, 1);
            if (kind > 0) {
                faulty("w0;w0;g" + kind + " 0 1 1   0 0;", 4, 17);
            } else {
                sound("w0;w0;g" + kind + " 0 1 1   0 0;", 2, 1);
            }
            sound("w0;w0;g" + kind + " 0 1 1 1 0;", 2, 1);
            sound("w0;w0;w0;g" + kind + " 0 1 2 0 0;", 3, 1);
        }
        // two gates may do what one may not
        sound("w0;w0;g0 0 0 1 0 0;g0 1 1 0 0 0;", 2, 2);
        sound(EIGHT_WIRES + "g1 6 5 7 0 0;", 8, 1);
        faulty(EIGHT_WIRES + "g1 6 7 7 0 0;", 4, 33);
    }

    private static void emptyTexts() {
        Edge.says("Section 1 (promise 3)", "An empty text (or one of blanks alone): nothing.");
        int[] blanks = {0, 1, 2, 199, 200};
        for (int n : blanks) {
            sound(" ".repeat(n), 0, 0);
            DeltaCycles x = Check.of("w1;w0;g0 0 0 1 3 0;");
            x.set(0, 0, 1);
            x.run(9);
            x.write(0, 1);
            x.keep(0);
            Check.feed(x, " ".repeat(n));
            Edge.due("told(2) of " + n + " blanks", x.told(2), n);
            Edge.due("wires() of " + n + " blanks", x.wires(), 0);
            Edge.same("all is as in a new object", Seen.whole(() -> nothingAgain(n)), Seen.whole(DeltaCycles::new));
            Edge.due("wire(0, 0)", x.wire(0, 0), DeltaCycles.UNKNOWN);
            Edge.due("gate(0, 0)", x.gate(0, 0), DeltaCycles.UNKNOWN);
            Edge.due("goBack(0)", x.goBack(0), DeltaCycles.NOT);
        }
    }

    private static DeltaCycles nothingAgain(int blanks) {
        DeltaCycles x = Check.of("w1;w0;g0 0 0 1 3 0;");
        x.set(0, 0, 1);
        x.run(9);
        x.write(0, 1);
        x.keep(1);
        x.run(1);
        Check.take(x, " ".repeat(blanks));
        return x;
    }

    /** Much has happened: an image of each number, a book, deeds, a draw. */
    private static DeltaCycles busy() {
        DeltaCycles x = Check.of("w0;w1;w0;g0 0 0 1 3 0;");
        x.set(0, 1, 2);
        x.keep(0);
        x.step();
        x.keep(1);
        x.seed(77);
        x.drift(2);
        x.write(1, 0);
        x.write(2, 3);
        x.set(2, 1, 9);
        return x;
    }

    private static void taken() {
        Edge.says("Promise 3", "THE TEXT (it is empty then, with a FAULT, too) becomes all there is, BEGUN (no BOOK; IMAGES, what could be undone are gone; "
            + "THE SEED stays): WIRES;");
        DeltaCycles x = busy();
        int seed = x.seed(5);
        Edge.holds("two times by draws", seed != 77);
        Check.feed(x, "w3;w2;g1 0 1 1 4 1;");
        Edge.due("told(2)", x.told(2), 19);
        Edge.due("wires()", x.wires(), 2);
        // and of UNSURE, LOOSE at 4 changes wire 1, which tells the gate once more
        int[] due = {2, 1, 0, 0, 0, 0, 0, 0, 0, 2, 0, 0, -1, 0};
        for (int what = 0; what < due.length; what++) {
            Edge.due("told(" + what + ")", x.told(what), due[what]);
        }
        Edge.due("goBack(0)", x.goBack(0), DeltaCycles.NOT);
        Edge.due("goBack(1)", x.goBack(1), DeltaCycles.NOT);
        Edge.due("undo(1)", x.undo(1), DeltaCycles.NOT);
        Edge.due("seed(0): it stayed", x.seed(0), 5);
        Edge.due("wire(0, 0)", x.wire(0, 0), 3);
        Edge.due("wire(1, 0)", x.wire(1, 0), 2);
        Edge.due("wire(2, 0)", x.wire(2, 0), DeltaCycles.UNKNOWN);
        Edge.due("wire(0, 2)", x.wire(0, 2), 0);
        Edge.due("wire(0, 3)", x.wire(0, 3), -1);
        Edge.due("wave(0, 0, 0)", x.wave(0, 0, 0), -1);
        Edge.due("wires() at once again: the text is empty", x.wires(), 0);
        Edge.due("told(0)", x.told(0), 0);
        Edge.due("told(2) with a FAULT", Check.take(x, "w0;w") == -11 ? x.told(2) : -1, 0);
        DeltaCycles y = Check.of("w0;w0;g0 0 0 1 0 0;g0 1 1 0 0 0;");
        y.step();
        Edge.due("told(5) of a text without end", y.told(5), 1);
        Edge.due("told(8)", y.told(8), 3);
        Edge.due("wires() of the next one", Check.take(y, "w0;w0;g0 0 0 1 2 0;"), 2);
        Edge.due("told(5)", y.told(5), 0);
        Edge.due("told(8)", y.told(8), 0);
        Edge.due("told(4)", y.told(4), 0);
        Edge.due("step()", y.step(), 2);
    }

    private static void refusedText() {
        Edge.says("Promise 3", "-10 less the number of its FAULT (all else is as it was).");
        String[] texts = {"w1;w", "w1;w4;", EIGHT_WIRES + "w0;", "w1;w1;g1 0 1 1 0 0;"};
        String ahead = Seen.whole(EdgesOfText::busy).replaceFirst("fault \\S+", "");
        for (int number = 1; number <= 4; number++) {
            String text = texts[number - 1];
            DeltaCycles x = busy();
            Edge.due("wires() of '" + text + "'", Check.take(x, text), -10 - number);
            Edge.due("told(2)", x.told(2), 0);
            String then = Seen.whole(() -> {
                DeltaCycles y = busy();
                Check.take(y, text);
                return y;
            });
            Edge.same("all else as it was, of '" + text + "'", withoutFault(then), withoutFault(ahead));
        }
    }

    private static String withoutFault(String seen) {
        return seen.replaceAll("fault \\S+", "");
    }

    private static void faultPlaces() {
        Edge.says("Promise 4", "The place (from 0 on) of the letter that has the FAULT of the latest wires(); NONE.");
        DeltaCycles x = new DeltaCycles();
        Edge.due("fault() ahead of any text", x.fault(), -1);
        Edge.due("wires()", Check.take(x, "x"), -11);
        Edge.due("fault() at the first letter", x.fault(), 0);
        x.feed('w');
        Edge.due("fault() while the next text is fed", x.fault(), 0);
        Edge.due("wires()", x.wires(), -11);
        Edge.due("fault() at the end", x.fault(), 1);
        Edge.due("wires()", Check.take(x, " ".repeat(199) + "w"), -11);
        Edge.due("fault() at the end of 200 letters", x.fault(), 200);
        Edge.due("wires()", Check.take(x, " ".repeat(199) + "0"), -11);
        Edge.due("fault() at the last of 200 letters", x.fault(), 199);
        Edge.due("wires() of a sound text", Check.take(x, "w0;"), 1);
        Edge.due("fault() then", x.fault(), -1);
        Edge.due("wires()", Check.take(x, "w0;w9;"), -12);
        x.run(1);
        x.undo(1);
        x.keep(0);
        x.goBack(0);
        Edge.due("fault() is not undone", x.fault(), 4);
        Edge.due("wires() of an empty text", x.wires(), 0);
        Edge.due("fault() then", x.fault(), -1);
    }
}

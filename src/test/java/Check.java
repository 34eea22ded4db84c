/** What every test of the project counts and makes. */
final class Check {
    private static int passed = 0;
    private static int failed = 0;

    private Check() {
    }

    static void due(String call, long got, long want) {
        if (got == want) {
            passed++;
        } else {
            failed++;
            System.out.println(call + " answered " + got + ", due is " + want);
        }
    }

    static void holds(String what, boolean so) {
        due(what, so ? 1 : 0, 1);
    }

    /** Feeds a text; the object has not taken it yet. */
    static void feed(DeltaCycles x, String text) {
        for (int i = 0; i < text.length(); i++) {
            x.feed(text.charAt(i));
        }
    }

    static int take(DeltaCycles x, String text) {
        feed(x, text);
        return x.wires();
    }

    static DeltaCycles of(String text) {
        DeltaCycles x = new DeltaCycles();
        int wires = take(x, text);
        holds("the text '" + text + "' is taken", wires >= 0);
        return x;
    }

    static void end(String name) {
        System.out.println(name + ": " + passed + " answers as due, " + failed + " not");
        if (failed != 0) {
            System.exit(1);
        }
    }
}

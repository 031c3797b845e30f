/** What the tests of the promises share: answers that are due, and texts put on a tape. */
final class Check {
    static final long MIN = Integer.MIN_VALUE;
    private static int wrong = 0;

    private Check() {
    }

    static void due(int promise, String what, long got, long want) {
        if (got != want) {
            wrong++;
            System.out.println("promise " + promise + ": " + what + " answered " + got + ", due is " + want);
        }
    }

    static void due(int promise, String what, boolean got, boolean want) {
        due(promise, what, got ? 1 : 0, want ? 1 : 0);
    }

    static void end(String name) {
        System.out.println(name + (wrong == 0 ? ": all answers are as due" : ": " + wrong + " answers are not as due"));
        if (wrong != 0) {
            System.exit(1);
        }
    }

    /** The tape is just this text. */
    static void tape(WarmExtents x, String text) {
        x.end(0);
        for (int from = 0; from < text.length(); from += 20) {
            x.feed(four(text, from), four(text, from + 4), four(text, from + 8), four(text, from + 12), four(text, from + 16));
        }
        x.end(text.length());
    }

    private static int four(String text, int from) {
        int number = 0;
        for (int i = from; i < from + 4; i++) {
            number = number << 8 | (i < text.length() ? text.charAt(i) : 32);
        }
        return number;
    }

    /** What text() answers for this text. */
    static int read(WarmExtents x, String text) {
        tape(x, text);
        return x.text();
    }

    /** Reads the first block of an extent so often; so no stream grows. */
    static void warm(WarmExtents x, int extent, int times) {
        for (int i = 0; i < times; i++) {
            x.read(extent, 0);
        }
    }

    /** An extent is fast, with moves asked for and enough ticks that no epoch ends. */
    static void makeFast(WarmExtents x, int extent) {
        x.tell(0, 6);
        x.ask(extent);
        x.day(1);
    }

    /** Whether the text has this fault at this place. */
    static void dueFault(String text, int what, int place) {
        WarmExtents x = new WarmExtents();
        due(4, "text() of '" + text + "'", read(x, text), what == 0 ? 0 : -1);
        due(5, "fault(0) of '" + text + "'", x.fault(0), what);
        due(5, "fault(1) of '" + text + "'", x.fault(1), place);
        due(4, "bytes of the tape behind '" + text + "'", x.about(2), 0);
    }
}

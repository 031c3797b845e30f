/** What the tests of the promises share: answers that are due, and texts put on a tape. */
final class Check {
    static final long MIN = Integer.MIN_VALUE;
    private static int wrong = 0;
    private static String sentence = "";

    private Check() {
    }

    /** What is due from here on, without the number of a promise, is due by this sentence of the document. */
    static void sentence(String words) {
        sentence = words;
    }

    static void due(String what, long got, long want) {
        if (got != want) {
            wrong++;
            System.out.println("\"" + sentence + "\": " + what + " answered " + got + ", due is " + want);
        }
    }

    static void due(String what, boolean got, boolean want) {
        due(what, got ? 1 : 0, want ? 1 : 0);
    }

    static void due(int promise, String what, long got, long want) {
        if (got != want) {
            wrong++;
            System.out.println("promise " + promise + ": " + what + " answered " + got + ", due is " + want);
        }
    }

    static void due(int promise, String what, boolean got, boolean want) {
        due(promise, what, got ? 1 : 0, want ? 1 : 0);
    }

    static void end(String name) {
        System.out.println(name + (wrong == 0 ? ": all answers are as due" : ": " + wrong + " answers are not as due"));
        if (wrong != 0) {
            System.exit(1);
        }
    }

    /** The tape is just this text. */
    static void tape(WarmExtents x, String text) {
        x.end(0);
        for (int from = 0; from < text.length(); from += 20) {
            x.feed(four(text, from), four(text, from + 4), four(text, from + 8), four(text, from + 12), four(text, from + 16));
        }
        x.end(text.length());
    }

    private static int four(String text, int from) {
        int number = 0;
        for (int i = from; i < from + 4; i++) {
            number = number << 8 | (i < text.length() ? text.charAt(i) : 32);
        }
        return number;
    }

    /** What text() answers for this text. */
    static int read(WarmExtents x, String text) {
        tape(x, text);
        return x.text();
    }

    /** Reads the first block of an extent so often; so no stream grows. */
    static void warm(WarmExtents x, int extent, int times) {
        for (int i = 0; i < times; i++) {
            x.read(extent, 0);
        }
    }

    /** An extent is fast, with moves asked for and enough ticks that no epoch ends. */
    static void makeFast(WarmExtents x, int extent) {
        x.tell(0, 6);
        x.ask(extent);
        x.day(1);
    }

    /** A new object in which each of these extents was read so often in this epoch, and once in the one ahead. */
    static WarmExtents known(int[] extents, int[] reads) {
        WarmExtents x = new WarmExtents();
        for (int e : extents) {
            warm(x, e, 1);
        }
        x.day(4);
        for (int i = 0; i < extents.length; i++) {
            warm(x, extents[i], reads[i]);
        }
        return x;
    }

    /** What a call that is refused leaves as it was, in few calls. */
    static int[] state(WarmExtents x) {
        int[] all = new int[70];
        int at = 0;
        for (int what = 0; what <= 12; what++) {
            all[at++] = x.is(what);
        }
        for (int what = 0; what <= 2; what++) {
            all[at++] = x.about(what);
        }
        all[at++] = x.book(-1, 0);
        all[at++] = x.move(-1, 0);
        all[at++] = x.head(-1, 0);
        all[at++] = x.fault(0);
        all[at++] = x.fault(1);
        for (int e = 0; e < 10; e++) {
            all[at++] = x.heat(e);
            all[at++] = x.of(e, 4);
        }
        for (int p = 0; p < 23; p++) {
            all[at++] = x.on(0, p);
        }
        return all;
    }

    static void unchanged(WarmExtents x, int[] before) {
        int[] after = state(x);
        for (int i = 0; i < before.length; i++) {
            due("number " + i + " of the state behind what was refused", after[i], before[i]);
        }
    }

    /** By the sentence: whether the text has this fault (0 for none) at this place. */
    static void blamed(String text, int what, int place) {
        WarmExtents x = new WarmExtents();
        due("text() of '" + text + "'", read(x, text), what == 0 ? 0 : -1);
        due("fault(0) of '" + text + "'", x.fault(0), what);
        due("fault(1) of '" + text + "'", x.fault(1), place);
    }

    /** Whether the text has this fault at this place. */
    static void dueFault(String text, int what, int place) {
        WarmExtents x = new WarmExtents();
        due(4, "text() of '" + text + "'", read(x, text), what == 0 ? 0 : -1);
        due(5, "fault(0) of '" + text + "'", x.fault(0), what);
        due(5, "fault(1) of '" + text + "'", x.fault(1), place);
        due(4, "bytes of the tape behind '" + text + "'", x.about(2), 0);
    }
}

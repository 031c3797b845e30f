/** Promises 1 to 17, 52 and 53 at their edges, sentence by sentence: calls that do something, and calls that are refused. */
public final class EdgesOfDeedsTest {
    private static final int[] FAR = {-1, -2, 10, 11, 1024, Integer.MAX_VALUE, Integer.MIN_VALUE};

    public static void main(String[] args) {
        newObject();
        feed();
        feedOfBytes();
        end();
        text();
        textWithAFault();
        fiveTexts();
        faultAheadOfAny();
        faultWithout();
        read();
        write();
        scan();
        pin();
        tell();
        ask();
        drop();
        dropOfTen();
        dropOfOneBegun();
        dropOnTheWayHome();
        day();
        crash();
        played();
        years();
        undo();
        image();
        imageStays();
        Check.end("EdgesOfDeedsTest");
    }

    private static void newObject() {
        Check.sentence("1: All as at first; THE IMAGE is this.");
        WarmExtents x = new WarmExtents();
        Check.due("back() at once", x.back(), 0);
        int[] first = Check.state(x);
        x.write(0, 0, 7);
        x.pin(1, 1);
        x.tell(0, 0);
        x.ask(3);
        x.day(8);
        x.years(5, 9);
        x.read(9, 1);
        Check.due("back()", x.back(), 0);
        Check.unchanged(x, first);
        Check.due("no step", x.undo(), -1);
        WarmExtents y = new WarmExtents();
        y.write(0, 0, 8);
        Check.due("another one has nothing to do with it", x.on(0, 0), 0);
    }

    private static void feed() {
        Check.sentence("2: Twenty bytes come behind the tape, the highest of a first: how many it has. "
                + "NONE, and none come, if there would be more than 300.");
        WarmExtents x = new WarmExtents();
        int blanks = 0x20202020;
        for (int i = 1; i <= 15; i++) {
            Check.due("feed " + i, x.feed(blanks, blanks, blanks, blanks, blanks), 20 * i);
        }
        Check.due("320 would be too many", x.feed(-1, -1, -1, -1, -1), -1);
        Check.due("bytes", x.about(2), 300);
        x.end(281);
        Check.due("301 would be too many", x.feed(-1, -1, -1, -1, -1), -1);
        Check.due("bytes", x.about(2), 281);
        x.end(280);
        Check.due("300", x.feed(blanks, blanks, blanks, blanks, blanks), 300);
        Check.due("no other byte came", x.text(), 0);
    }

    private static void feedOfBytes() {
        Check.sentence("2: Twenty bytes come behind the tape, the highest of a first: how many it has.");
        WarmExtents x = new WarmExtents();
        // "crash;" and a byte 255
        Check.due("feed", x.feed(0x63726173, 0x683bffff, -1, Integer.MIN_VALUE, Integer.MAX_VALUE), 20);
        Check.due("of all bytes", x.text(), -1);
        Check.due("the seventh is none", x.fault(1), 6);
        x.feed(0x63726173, 0x683bffff, -1, Integer.MIN_VALUE, Integer.MAX_VALUE);
        x.end(6);
        Check.due("of six", x.text(), 0);
        Check.due("played", x.played(0), 1);
        Check.due("no step", x.about(1), 1);
    }

    private static void end() {
        Check.sentence("3: The tape has its first n bytes alone: n. NONE, and nothing is done, if it has not so many, or n is below 0.");
        WarmExtents x = new WarmExtents();
        Check.due("end(0) of none", x.end(0), 0);
        Check.due("end(1) of none", x.end(1), -1);
        Check.due("end(-1) of none", x.end(-1), -1);
        Check.due("bytes", x.about(2), 0);
        Check.tape(x, "crash;tick;");
        Check.due("end(12) of 11", x.end(12), -1);
        Check.due("end(-1)", x.end(-1), -1);
        Check.due("end(MIN)", x.end(Integer.MIN_VALUE), -1);
        Check.due("end(MAX)", x.end(Integer.MAX_VALUE), -1);
        Check.due("bytes", x.about(2), 11);
        Check.due("end(11) of 11", x.end(11), 11);
        Check.due("end(6)", x.end(6), 6);
        Check.due("end(11) of 6", x.end(11), -1);
        Check.due("the first ones stay", x.text(), 0);
        x.played(0);
        Check.due("a crash, no tick", x.is(12) - x.is(0), 1);
        Check.tape(x, "tick;");
        Check.due("end(0)", x.end(0), 0);
        Check.due("bytes", x.about(2), 0);
    }

    private static void text() {
        Check.sentence("4: The tape (empty then) is a TEXT: its number.");
        WarmExtents x = new WarmExtents();
        Check.due("the first", Check.read(x, "tick;"), 0);
        Check.due("bytes", x.about(2), 0);
        Check.due("the second, of no bytes", x.text(), 1);
        Check.due("texts", x.about(0), 2);
        Check.due("no step", x.about(1), 0);
        Check.due("acts of the first", x.played(0), 1);
        Check.due("acts of the second", x.played(1), 0);
    }

    private static void textWithAFault() {
        Check.sentence("4: NONE: it has a FAULT;");
        WarmExtents x = new WarmExtents();
        Check.due("a fault", Check.read(x, "tick"), -1);
        Check.due("no text", x.about(0), 0);
        Check.due("the tape is empty then", x.about(2), 0);
        Check.due("played(0)", x.played(0), -1);
        Check.due("the next is the first", Check.read(x, "tick;"), 0);
    }

    private static void fiveTexts() {
        Check.sentence("4: or (the tape stays) there are 4.");
        WarmExtents x = new WarmExtents();
        for (int i = 0; i < 4; i++) {
            Check.due("text " + i, Check.read(x, "tick;"), i);
        }
        Check.due("a fifth", Check.read(x, "crash;"), -1);
        Check.due("texts", x.about(0), 4);
        Check.due("the tape stays", x.about(2), 6);
        Check.due("the fourth is as it was", x.played(3) + x.is(0), 2);
        x.back();
        Check.due("there is room again: the tape is read", x.text(), 0);
        Check.due("a crash", x.played(0) + x.is(12), 2);
    }

    private static void faultAheadOfAny() {
        Check.sentence("5: NONE for others, and ahead of any.");
        WarmExtents x = new WarmExtents();
        Check.due("fault(0)", x.fault(0), -1);
        Check.due("fault(1)", x.fault(1), -1);
        Check.tape(x, "tick");
        Check.due("a tape alone isn't read", x.fault(0), -1);
        x.text();
        Check.due("fault(0)", x.fault(0), 1);
        Check.due("fault(1)", x.fault(1), 4);
        for (int what : new int[] {-1, 2, 3, Integer.MIN_VALUE, Integer.MAX_VALUE}) {
            Check.due("fault(" + what + ")", x.fault(what), -1);
        }
    }

    private static void faultWithout() {
        Check.sentence("5: Of the latest text that was read: 0 its FAULT (0 without), 1 its place (NONE without).");
        WarmExtents x = new WarmExtents();
        Check.read(x, "!");
        Check.due("at the first byte", x.fault(1), 0);
        Check.read(x, "tick;");
        Check.due("without: fault(0)", x.fault(0), 0);
        Check.due("without: fault(1)", x.fault(1), -1);
        Check.read(x, "read a,0;");
        Check.due("fault(0)", x.fault(0), 4);
        for (int i = 1; i < 4; i++) {
            Check.read(x, "");
        }
        Check.due("four texts", x.about(0), 4);
        Check.read(x, "!");
        Check.due("a fifth isn't read", x.fault(0), 0);
    }

    private static void read() {
        Check.sentence("6: A READ: the VALUE. NONE for others.");
        WarmExtents x = new WarmExtents();
        int[] before = Check.state(x);
        for (int far : FAR) {
            Check.due("read(" + far + ", 0)", x.read(far, 0), -1);
            Check.due("read(3, " + far + ")", x.read(3, far), -1);
        }
        Check.due("read(0, 1)", x.read(0, 1), -1);
        Check.due("read(3, 4)", x.read(3, 4), -1);
        Check.due("read(9, 2)", x.read(9, 2), -1);
        Check.unchanged(x, before);
        Check.due("read(0, 0)", x.read(0, 0), 0);
        Check.due("read(9, 1)", x.read(9, 1), 22);
    }

    private static void write() {
        Check.sentence("7: A WRITE: 1 on FAST, 0 on SLOW. NONE for others.");
        WarmExtents x = new WarmExtents();
        Check.makeFast(x, 1);
        int[] before = Check.state(x);
        for (int far : FAR) {
            Check.due("write(" + far + ", 0, 1)", x.write(far, 0, 1), -1);
            Check.due("write(3, " + far + ", 1)", x.write(3, far, 1), -1);
            Check.due("write(3, 0, value)", x.write(3, 0, far < 0 ? far : Math.max(far, 1000)), -1);
        }
        Check.due("write(1, 2, 1)", x.write(1, 2, 1), -1);
        Check.due("write(3, 4, 1)", x.write(3, 4, 1), -1);
        Check.unchanged(x, before);
        Check.due("on(1, 2)", x.on(1, 2), 0);
        Check.due("write(1, 1, 999)", x.write(1, 1, 999), 1);
        Check.due("write(3, 3, 0)", x.write(3, 3, 0), 0);
    }

    private static void scan() {
        Check.sentence("8: how many were on FAST. NONE for others (from above to).");
        WarmExtents x = new WarmExtents();
        Check.makeFast(x, 1);
        int[] before = Check.state(x);
        for (int far : FAR) {
            Check.due("scan(" + far + ", 9)", x.scan(far, 9), -1);
            Check.due("scan(0, " + far + ")", x.scan(0, far), -1);
        }
        Check.due("scan(1, 0)", x.scan(1, 0), -1);
        Check.due("scan(9, 8)", x.scan(9, 8), -1);
        Check.unchanged(x, before);
        Check.due("scan(1, 1)", x.scan(1, 1), 2);
        Check.due("scan(0, 0)", x.scan(0, 0), 0);
        Check.due("scan(0, 9)", x.scan(0, 9), 2);
        Check.due("scan(9, 9)", x.scan(9, 9), 0);
        Check.due("accesses", x.is(7), 2 + 1 + 23 + 2);
    }

    private static void pin() {
        Check.sentence("9: PINNED (how 0 none, 1 FAST, 2 SLOW): true. False if it is so, and for others.");
        WarmExtents x = new WarmExtents();
        int[] before = Check.state(x);
        for (int far : FAR) {
            Check.due("pin(" + far + ", 1)", x.pin(far, 1), false);
            Check.due("pin(0, how)", x.pin(0, far < 0 ? far : Math.max(far, 3)), false);
        }
        Check.due("pin(0, 3)", x.pin(0, 3), false);
        Check.due("pin(0, 0), as it is", x.pin(0, 0), false);
        Check.unchanged(x, before);
        for (int how = 1; how <= 2; how++) {
            Check.due("pin(9, how)", x.pin(9, how), true);
            Check.due("pin(9, how), as it is", x.pin(9, how), false);
        }
        Check.due("pin(9, 0)", x.pin(9, 0), true);
        Check.due("lines", x.book(-1, 0), 3);
        Check.due("steps", x.about(1), 3);
    }

    private static void tell() {
        Check.sentence("10: PACE, BUDGET, PRICE told (what 0, 1, 2; as it is already, too): true. False for others.");
        WarmExtents x = new WarmExtents();
        int[] before = Check.state(x);
        int[] most = {6, 12, 40};
        for (int far : FAR) {
            Check.due("tell(what, 0)", x.tell(far < 0 ? far : Math.max(far, 3), 0), false);
            for (int what = 0; what < 3; what++) {
                Check.due("tell(" + what + ", n)", x.tell(what, far < 0 ? far : Math.max(far, most[what] + 1)), false);
            }
        }
        Check.due("tell(3, 0)", x.tell(3, 0), false);
        Check.unchanged(x, before);
        int[] first = {3, 6, 4};
        for (int what = 0; what < 3; what++) {
            Check.due("as it is already", x.tell(what, first[what]), true);
            Check.due("the most", x.tell(what, most[what]), true);
            Check.due("the least", x.tell(what, 0), true);
        }
        Check.due("steps", x.about(1), 9);
    }

    private static void ask() {
        Check.sentence("11: A MOVE to the other disk is the last one: how many there are. NONE: there is one of it, and for others.");
        WarmExtents x = new WarmExtents();
        int[] before = Check.state(x);
        for (int far : FAR) {
            Check.due("ask(" + far + ")", x.ask(far), -1);
        }
        Check.unchanged(x, before);
        Check.due("ask(9)", x.ask(9), 1);
        Check.due("ask(3)", x.ask(3), 2);
        Check.due("ask(9) again", x.ask(9), -1);
        x.day(1);
        Check.due("3 is begun", x.move(0, 2), 1);
        Check.due("one that is begun", x.ask(3), -1);
        Check.due("one that is fast", x.ask(9), 2);
        Check.due("to slow", x.move(1, 1), 0);
        Check.due("steps", x.about(1), 4);
    }

    private static void drop() {
        Check.sentence("12: how many there are. NONE: there is none, and for others.");
        WarmExtents x = new WarmExtents();
        int[] before = Check.state(x);
        for (int far : FAR) {
            Check.due("drop(" + far + ")", x.drop(far), -1);
        }
        Check.due("drop(0)", x.drop(0), -1);
        Check.unchanged(x, before);
        x.ask(0);
        x.ask(9);
        Check.due("drop(1)", x.drop(1), -1);
        Check.due("drop(0)", x.drop(0), 1);
        Check.due("drop(0) again", x.drop(0), -1);
        Check.due("drop(9)", x.drop(9), 0);
        Check.due("steps", x.about(1), 4);
    }

    private static void dropOfTen() {
        Check.sentence("12: The MOVE of an EXTENT is DROPPED ... how many there are.");
        WarmExtents x = new WarmExtents();
        x.tell(0, 0);
        for (int e = 0; e < 10; e++) {
            x.ask(e);
        }
        Check.due("the last of ten", x.drop(9), 9);
        Check.due("the first", x.drop(0), 8);
        Check.due("one in the midst", x.drop(4), 7);
        int[] left = {1, 2, 3, 5, 6, 7, 8};
        for (int i = 0; i < 7; i++) {
            Check.due("move(" + i + ", 0)", x.move(i, 0), left[i]);
            Check.due("moveOf(" + left[i] + ")", x.moveOf(left[i]), i);
        }
        for (int i = 0; i < 7; i++) {
            Check.due("drop(" + left[i] + ")", x.drop(left[i]), 6 - i);
        }
        Check.due("none is left", x.move(-1, 0), 0);
    }

    private static void dropOfOneBegun() {
        Check.sentence("12: The MOVE of an EXTENT is DROPPED (its SLOTS are free, if it was BEGUN to FAST;");
        WarmExtents x = new WarmExtents();
        x.ask(2);
        x.tell(0, 2);
        x.day(1);
        Check.due("begun", x.free(0), 3);
        x.drop(2);
        Check.due("its slots are free", x.free(0), 0);
        Check.due("what was copied lies there yet", x.on(1, 1), 4);
        Check.due("it is slow", x.where(2), 0);
        x.write(2, 0, 9);
        Check.due("there is no move to undo", x.on(0, 3), 9);
        WarmExtents y = new WarmExtents();
        Check.makeFast(y, 0);
        y.ask(0);
        y.drop(0);
        Check.due("a fast one keeps its slot", y.slot(0, 0), 0);
        Check.due("it isn't free", y.free(0), 1);
    }

    private static void dropOnTheWayHome() {
        Check.sentence("12: what was copied home stays there): how many there are.");
        WarmExtents x = new WarmExtents();
        Check.makeFast(x, 1);
        x.write(1, 0, 70);
        x.write(1, 1, 71);
        x.tell(0, 1);
        x.ask(1);
        x.day(1);
        x.drop(1);
        Check.due("block 0 is home", x.on(0, 1), 70);
        Check.due("block 1 isn't", x.on(0, 2), 2);
        Check.due("just that is dirty", x.of(1, 5), 2);
        Check.due("it is fast", x.slot(1, 1), 1);
        Check.due("nothing is lost", x.read(1, 1), 71);
    }

    private static void day() {
        Check.sentence("13: TICKS pass (1 .. 8): CLOCK. NONE for others.");
        WarmExtents x = new WarmExtents();
        int[] before = Check.state(x);
        for (int far : FAR) {
            Check.due("day(n)", x.day(far < 0 ? far : Math.max(far, 9)), -1);
        }
        Check.due("day(0)", x.day(0), -1);
        Check.due("day(9)", x.day(9), -1);
        Check.unchanged(x, before);
        Check.due("day(1)", x.day(1), 1);
        Check.due("day(8)", x.day(8), 9);
        Check.due("steps", x.about(1), 2);
    }

    private static void crash() {
        Check.sentence("14: A CRASH: how many MOVES were gone.");
        WarmExtents x = new WarmExtents();
        Check.due("none", x.crash(), 0);
        for (int e = 0; e < 10; e++) {
            x.ask(e);
        }
        Check.due("all ten", x.crash(), 10);
        Check.due("none again", x.crash(), 0);
        Check.due("steps", x.about(1), 13);
    }

    private static void played() {
        Check.sentence("15: PLAYED is a TEXT: how many ACTS. NONE for others.");
        WarmExtents x = new WarmExtents();
        int[] before = Check.state(x);
        for (int far : FAR) {
            Check.due("played(" + far + ")", x.played(far), -1);
        }
        Check.due("played(0)", x.played(0), -1);
        Check.unchanged(x, before);
        Check.read(x, "loop 9{loop 9{loop 9{crash;}}}");
        Check.due("played(0)", x.played(0), 300);
        Check.due("played(1)", x.played(1), -1);
        Check.due("steps", x.about(1), 1);
    }

    private static void years() {
        Check.sentence("16: YEARS: CLOCK. NONE for others.");
        WarmExtents x = new WarmExtents();
        int[] before = Check.state(x);
        for (int far : FAR) {
            Check.due("years(seed, 1)", x.years(far < 0 ? far : Math.max(far, 10000), 1), -1);
            Check.due("years(0, n)", x.years(0, far < 0 ? far : Math.max(far, 25)), -1);
        }
        Check.due("years(10000, 1)", x.years(10000, 1), -1);
        Check.due("years(0, 0)", x.years(0, 0), -1);
        Check.due("years(0, 25)", x.years(0, 25), -1);
        Check.unchanged(x, before);
        Check.due("years(9999, 1)", x.years(9999, 1), 1);
        int clock = x.years(0, 24);
        Check.due("years(0, 24)", clock, x.is(0));
        Check.due("steps", x.about(1), 2);
    }

    private static void undo() {
        Check.sentence("17: The latest STEP is taken back: how many can be yet. NONE: there is none.");
        WarmExtents x = new WarmExtents();
        Check.due("none", x.undo(), -1);
        int[] first = Check.state(x);
        x.write(0, 0, 5);
        x.tell(0, 3);
        Check.due("two: one yet", x.undo(), 1);
        Check.due("one: none yet", x.undo(), 0);
        Check.unchanged(x, first);
        Check.due("none", x.undo(), -1);
        x.read(0, 0);
        Check.due("a new one", x.undo(), 0);
        Check.due("none", x.undo(), -1);
    }

    private static void image() {
        Check.sentence("52: THE IMAGE is as all is now: CLOCK.");
        WarmExtents x = new WarmExtents();
        Check.due("image() of a new object", x.image(), 0);
        x.day(3);
        x.read(0, 0);
        Check.due("image()", x.image(), 3);
        Check.due("no step", x.about(1), 2);
        x.undo();
        x.undo();
        Check.due("the image isn't undone", x.back(), 3);
        Check.due("its steps too", x.about(1), 2);
        Check.due("heat", x.heat(0), 8);
    }

    private static void imageStays() {
        Check.sentence("53: BACK to THE IMAGE (it stays): CLOCK.");
        WarmExtents x = new WarmExtents();
        for (int i = 1; i <= 31; i++) {
            x.write(0, 0, i);
        }
        x.image();
        int[] due = Check.state(x);
        for (int time = 0; time < 2; time++) {
            x.undo();
            x.write(0, 0, 500);
            x.write(0, 0, 501);
            x.day(5);
            Check.due("back()", x.back(), 0);
            Check.unchanged(x, due);
        }
        for (int i = 30; i >= 1; i--) {
            Check.due("undo()", x.undo(), i - 1);
            Check.due("on(0, 0)", x.on(0, 0), i);
        }
        Check.due("no more", x.undo(), -1);
        Check.due("back() once more", x.back(), 0);
        Check.due("steps", x.about(1), 30);
    }
}

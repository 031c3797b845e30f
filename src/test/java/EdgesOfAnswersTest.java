/** Promises 18 to 51 and 54 at their edges, sentence by sentence: calls that tell something. */
public final class EdgesOfAnswersTest {
    private static final int[] FAR = {-1, -2, -3, 10, 11, 1024, Integer.MAX_VALUE, Integer.MIN_VALUE};
    private static final int[] SIZES = {1, 2, 3, 4, 1, 2, 3, 4, 1, 2};

    public static void main(String[] args) {
        is();
        where();
        slot();
        on();
        holder();
        free();
        freeOfAFullDisk();
        position();
        heat();
        of();
        ofSwitched();
        headsOfNone();
        heads();
        movesOfNone();
        moves();
        moveOf();
        plan();
        worth();
        value();
        needs();
        threshold();
        displaced();
        may();
        next();
        enough();
        enoughOfAll();
        gained();
        foretold();
        copies();
        would();
        cheapest();
        rank();
        coldest();
        warmth();
        cools();
        share();
        mean();
        book();
        ledger();
        about();
        Check.end("EdgesOfAnswersTest");
    }

    private static void is() {
        Check.sentence("18: and how many in all: 7 ACCESSES, 8 on FAST, 9 STREAMED, 10 COPIES, 11 SWITCHED, 12 CRASHES. NONE for others.");
        WarmExtents x = new WarmExtents();
        for (int what = 7; what <= 12; what++) {
            Check.due("is(" + what + ") at first", x.is(what), 0);
        }
        Check.makeFast(x, 3);
        x.scan(3, 4);
        x.crash();
        int[] due = {5, 4, 2, 4, 1, 1};
        for (int what = 7; what <= 12; what++) {
            Check.due("is(" + what + ")", x.is(what), due[what - 7]);
        }
        for (int far : new int[] {-1, -2, 13, 14, Integer.MAX_VALUE, Integer.MIN_VALUE}) {
            Check.due("is(" + far + ")", x.is(far), -1);
        }
    }

    private static void where() {
        Check.sentence("19: Whether an EXTENT is FAST: 1, 0. NONE for others.");
        WarmExtents x = new WarmExtents();
        Check.makeFast(x, 9);
        x.tell(0, 1);
        x.ask(3);
        x.day(1);
        Check.due("where(9)", x.where(9), 1);
        Check.due("where(0)", x.where(0), 0);
        Check.due("where(3), on its way", x.where(3), 0);
        for (int far : FAR) {
            Check.due("where(" + far + ")", x.where(far), -1);
        }
    }

    private static void slot() {
        Check.sentence("20: The SLOT of a BLOCK of a FAST EXTENT. NONE for others.");
        WarmExtents x = new WarmExtents();
        Check.makeFast(x, 9);
        x.tell(0, 1);
        x.ask(3);
        x.day(1);
        Check.due("slot(9, 0)", x.slot(9, 0), 0);
        Check.due("slot(9, 1)", x.slot(9, 1), 1);
        Check.due("slot(9, 2)", x.slot(9, 2), -1);
        Check.due("slot(3, 0), a slow one on its way", x.slot(3, 0), -1);
        Check.due("slot(0, 0), a slow one", x.slot(0, 0), -1);
        for (int far : FAR) {
            Check.due("slot(" + far + ", 0)", x.slot(far, 0), -1);
            Check.due("slot(9, " + far + ")", x.slot(9, far), -1);
        }
    }

    private static void on() {
        Check.sentence("21: What lies on a disk (1 FAST, 0 SLOW) at a SLOT, a POSITION, newest or not. NONE for others.");
        WarmExtents x = new WarmExtents();
        Check.makeFast(x, 0);
        x.write(0, 0, 9);
        Check.due("not the newest", x.on(0, 0), 0);
        Check.due("the newest", x.on(1, 0), 9);
        Check.due("on(0, 22)", x.on(0, 22), 22);
        Check.due("on(0, 23)", x.on(0, 23), -1);
        Check.due("on(1, 8), free", x.on(1, 8), 0);
        Check.due("on(1, 9)", x.on(1, 9), -1);
        Check.due("on(2, 0)", x.on(2, 0), -1);
        for (int far : FAR) {
            Check.due("on(" + far + ", 0)", x.on(far, 0), -1);
            Check.due("on(1, " + far + ")", x.on(1, far), -1);
            Check.due("on(0, place)", x.on(0, far < 0 ? far : Math.max(far, 23)), -1);
        }
        x.ask(0);
        x.day(1);
        Check.due("it lies there yet, free or not", x.on(1, 0), 9);
    }

    private static void holder() {
        Check.sentence("22: The POSITION of the BLOCK that has a SLOT (of a FAST EXTENT, or of a MOVE). NONE: it is free, and for others.");
        WarmExtents x = new WarmExtents();
        Check.makeFast(x, 0);
        x.tell(0, 1);
        x.ask(7);
        x.day(1);
        Check.due("of a fast extent: position 0", x.holder(0), 0);
        Check.due("of a move", x.holder(1), 16);
        Check.due("of a move, not copied", x.holder(4), 19);
        Check.due("free", x.holder(5), -1);
        Check.due("holder(8)", x.holder(8), -1);
        Check.due("holder(9)", x.holder(9), -1);
        for (int far : FAR) {
            Check.due("holder(" + far + ")", x.holder(far), -1);
        }
        x.drop(7);
        Check.due("free again", x.holder(1), -1);
        WarmExtents y = new WarmExtents();
        y.tell(0, 6);
        y.ask(3);
        y.ask(6);
        y.ask(9);
        y.day(2);
        Check.due("the last slot, the last position", y.holder(8), 22);
    }

    private static void free() {
        Check.sentence("23: The lowest free SLOT from this one on. NONE: none, and for others.");
        WarmExtents x = new WarmExtents();
        for (int s = 0; s <= 8; s++) {
            Check.due("free(" + s + ")", x.free(s), s);
        }
        Check.due("free(9)", x.free(9), -1);
        for (int far : FAR) {
            Check.due("free(" + far + ")", x.free(far), -1);
        }
        Check.makeFast(x, 0);
        Check.makeFast(x, 1);
        x.ask(0);
        x.day(1);
        Check.due("itself", x.free(0), 0);
        Check.due("from behind it on", x.free(1), 3);
        Check.due("free(2)", x.free(2), 3);
    }

    private static void freeOfAFullDisk() {
        Check.sentence("23: NONE: none, and for others.");
        WarmExtents x = new WarmExtents();
        x.tell(0, 6);
        x.ask(3);
        x.ask(7);
        x.ask(0);
        x.day(2);
        for (int s = 0; s <= 8; s++) {
            Check.due("free(" + s + ") of a full disk", x.free(s), -1);
        }
        x.ask(3);
        x.day(1);
        Check.due("free(0)", x.free(0), 0);
        Check.due("free(4), none behind it", x.free(4), -1);
    }

    private static void position() {
        Check.sentence("24: The POSITION. NONE for others.");
        WarmExtents x = new WarmExtents();
        Check.due("the first", x.position(0, 0), 0);
        Check.due("the last", x.position(9, 1), 22);
        for (int e = 0; e < 10; e++) {
            Check.due("position(" + e + ", -1)", x.position(e, -1), -1);
            Check.due("behind the last of " + e, x.position(e, SIZES[e]), -1);
        }
        for (int far : FAR) {
            Check.due("position(" + far + ", 0)", x.position(far, 0), -1);
            Check.due("position(7, " + far + ")", x.position(7, far), -1);
        }
    }

    private static void heat() {
        Check.sentence("25: HEAT. NONE for others.");
        WarmExtents x = new WarmExtents();
        Check.due("heat(0)", x.heat(0), 0);
        x.read(9, 0);
        Check.due("heat(9)", x.heat(9), 8);
        for (int far : FAR) {
            Check.due("heat(" + far + ")", x.heat(far), -1);
        }
    }

    private static void of() {
        Check.sentence("26: 0 SEEN, 1 PLAIN, 2 STREAMED, 3 REST, 4 how PINNED, 5 DIRTY BLOCKS (bits), 6 SAVED HEAT, 7 SAVED SEEN, 8 how often it was SWITCHED");
        WarmExtents x = new WarmExtents();
        for (int what = 0; what <= 8; what++) {
            Check.due("of(9, " + what + ") at first", x.of(9, what), 0);
        }
        x.read(9, 1);
        x.day(4);
        Check.makeFast(x, 9);
        x.scan(6, 9);
        x.write(9, 1, 3);
        x.read(9, 1);
        x.pin(9, 2);
        int[] due = {3, 2, 2, 4, 2, 2, 4, 2, 1};
        for (int what = 0; what <= 8; what++) {
            Check.due("of(9, " + what + ")", x.of(9, what), due[what]);
        }
        x.write(9, 0, 3);
        Check.due("both are dirty", x.of(9, 5), 3);
        Check.due("of(9, 9)", x.of(9, 9), -1);
        for (int far : FAR) {
            Check.due("of(" + far + ", 0)", x.of(far, 0), -1);
            Check.due("of(0, " + far + ")", x.of(0, far), -1);
        }
    }

    private static void ofSwitched() {
        Check.sentence("26: 8 how often it was SWITCHED (a CRASH takes nothing of it). NONE for others.");
        WarmExtents x = new WarmExtents();
        Check.makeFast(x, 0);
        Check.due("to fast", x.of(0, 8), 1);
        x.crash();
        Check.due("a crash", x.of(0, 8), 1);
        x.ask(0);
        x.day(1);
        Check.due("to slow", x.of(0, 8), 2);
        x.ask(0);
        x.drop(0);
        Check.due("dropped", x.of(0, 8), 2);
        Check.due("of none", x.of(1, 8), 0);
    }

    private static void headsOfNone() {
        Check.sentence("27: HEADS: how many (i NONE); ... -2 if there is none such, and for others.");
        WarmExtents x = new WarmExtents();
        Check.due("how many", x.head(-1, 0), 0);
        Check.due("how many, for any what", x.head(-1, 7), 0);
        Check.due("head(0, 0)", x.head(0, 0), -2);
        Check.due("head(0, 1)", x.head(0, 1), -2);
        x.read(0, 0);
        x.crash();
        Check.due("how many", x.head(-1, 1), 0);
        Check.due("head(0, 0)", x.head(0, 0), -2);
    }

    private static void heads() {
        Check.sentence("27: the i-th, from the eldest on: 0 the POSITION that is awaited, 1 the length. -2 if there is none such, and for others.");
        WarmExtents x = new WarmExtents();
        x.read(0, 0);
        x.read(2, 0);
        x.read(2, 1);
        Check.due("how many", x.head(-1, 0), 2);
        Check.due("the eldest", x.head(0, 0), 1);
        Check.due("its length", x.head(0, 1), 1);
        Check.due("the latest", x.head(1, 0), 5);
        Check.due("its length", x.head(1, 1), 2);
        Check.due("head(2, 0)", x.head(2, 0), -2);
        Check.due("head(0, 2)", x.head(0, 2), -2);
        Check.due("head(0, -1)", x.head(0, -1), -2);
        x.read(9, 1);
        Check.due("three: head(2, 0)", x.head(2, 0), 23);
        Check.due("three: head(3, 0)", x.head(3, 0), -2);
        for (int far : FAR) {
            Check.due("head(" + far + ", 0)", x.head(far, 0), far == -1 ? 3 : -2);
            Check.due("head(0, " + far + ")", x.head(0, far), -2);
        }
    }

    private static void movesOfNone() {
        Check.sentence("28: MOVES: how many (i NONE); ... -2 if there is none such, and for others.");
        WarmExtents x = new WarmExtents();
        Check.due("how many", x.move(-1, 0), 0);
        Check.due("how many, for any what", x.move(-1, 7), 0);
        for (int what = 0; what <= 3; what++) {
            Check.due("move(0, " + what + ")", x.move(0, what), -2);
        }
        x.ask(0);
        x.drop(0);
        Check.due("move(0, 0)", x.move(0, 0), -2);
    }

    private static void moves() {
        Check.sentence("28: the i-th: 0 the EXTENT, 1 whether to FAST, 2 whether BEGUN (1, 0), 3 BLOCKS that are to be COPIED yet (bits). "
                + "-2 if there is none such, and for others.");
        WarmExtents x = new WarmExtents();
        Check.makeFast(x, 1);
        x.write(1, 1, 3);
        x.tell(0, 3);
        x.ask(3);
        x.ask(1);
        x.day(1);
        int[] first = {3, 1, 1, 8};
        int[] second = {1, 0, 0, 2};
        for (int what = 0; what <= 3; what++) {
            Check.due("move(0, " + what + ")", x.move(0, what), first[what]);
            Check.due("move(1, " + what + ")", x.move(1, what), second[what]);
            Check.due("move(2, " + what + ")", x.move(2, what), -2);
        }
        Check.due("move(0, 4)", x.move(0, 4), -2);
        for (int far : FAR) {
            Check.due("move(" + far + ", 0)", x.move(far, 0), far == -1 ? 2 : -2);
            Check.due("move(" + far + ", 3)", x.move(far, 3), far == -1 ? 2 : -2);
            Check.due("move(0, " + far + ")", x.move(0, far), -2);
        }
    }

    private static void moveOf() {
        Check.sentence("29: Which MOVE (from 0) that of an EXTENT is. NONE: there is none, and for others.");
        WarmExtents x = new WarmExtents();
        Check.due("of no moves", x.moveOf(0), -1);
        x.ask(9);
        x.ask(0);
        Check.due("moveOf(9)", x.moveOf(9), 0);
        Check.due("moveOf(0)", x.moveOf(0), 1);
        Check.due("moveOf(1)", x.moveOf(1), -1);
        for (int far : FAR) {
            Check.due("moveOf(" + far + ")", x.moveOf(far), -1);
        }
        x.drop(9);
        Check.due("moveOf(0) then", x.moveOf(0), 0);
        Check.due("moveOf(9) then", x.moveOf(9), -1);
    }

    private static void plan() {
        Check.sentence("30: THE SET, were THE PLAN made now (bits).");
        WarmExtents x = new WarmExtents();
        Check.due("of none", x.plan(), 0);
        x.pin(0, 1);
        Check.due("the lowest bit", x.plan(), 1);
        x.pin(9, 1);
        Check.due("the highest bit", x.plan(), 513);
        Check.due("nothing is done", x.move(-1, 0), 0);
    }

    private static void worth() {
        Check.sentence("31: WORTH of THE SET, were THE PLAN made now with this BUDGET (0 .. 12). Integer.MIN_VALUE for others.");
        WarmExtents x = new WarmExtents();
        x.pin(3, 1);
        x.pin(7, 1);
        x.pin(0, 1);
        Check.due("worth(0)", x.worth(0), 0);
        Check.due("worth(1)", x.worth(1), 99996);
        Check.due("worth(4)", x.worth(4), 99996);
        Check.due("worth(5)", x.worth(5), 199980);
        Check.due("worth(8)", x.worth(8), 199980);
        Check.due("worth(9)", x.worth(9), 299964);
        Check.due("worth(12)", x.worth(12), 299964);
        Check.due("worth(13)", x.worth(13), Check.MIN);
        for (int far : FAR) {
            Check.due("worth(budget)", x.worth(far < 0 ? far : Math.max(far, 13)), Check.MIN);
        }
        Check.due("the budget is as it was", x.is(5), 6);
    }

    private static void value() {
        Check.sentence("32: WORTH of some EXTENTS (bits), were they THE SET now. Integer.MIN_VALUE: they are not ALLOWED, and for others.");
        WarmExtents x = new WarmExtents();
        Check.due("none", x.value(0), 0);
        Check.due("not allowed", x.value(1), Check.MIN);
        x.pin(9, 1);
        Check.due("the highest bit", x.value(512), 99992);
        Check.due("value(1024)", x.value(1024), Check.MIN);
        Check.due("value(1024 + 512)", x.value(1536), Check.MIN);
        Check.due("all bits", x.value(1023), Check.MIN);
        for (int far : FAR) {
            Check.due("value(" + far + ")", x.value(far), Check.MIN);
        }
        Check.due("value(MIN + 512)", x.value(Integer.MIN_VALUE + 512), Check.MIN);
        x.pin(0, 2);
        x.pin(9, 2);
        Check.due("none", x.value(0), 0);
    }

    private static void needs() {
        Check.sentence("33: How many BLOCKS are to be COPIED, were some EXTENTS (bits) THE SET now. NONE: they are not ALLOWED, and for others.");
        WarmExtents x = new WarmExtents();
        Check.due("none", x.needs(0), 0);
        Check.due("not allowed", x.needs(1), -1);
        x.pin(9, 1);
        Check.due("the highest bit", x.needs(512), 2);
        Check.due("needs(1024)", x.needs(1024), -1);
        Check.due("needs(1024 + 512)", x.needs(1536), -1);
        for (int far : FAR) {
            Check.due("needs(" + far + ")", x.needs(far), -1);
        }
        Check.due("needs(MIN + 512)", x.needs(Integer.MIN_VALUE + 512), -1);
        x.tell(1, 1);
        Check.due("above the budget", x.needs(512), -1);
    }

    private static void threshold() {
        Check.sentence("34: THRESHOLD. NONE: with no HEAT, and for others.");
        WarmExtents x = Check.known(new int[] {0, 9}, new int[] {1, 1});
        Check.due("threshold(0)", x.threshold(0), 5);
        Check.due("threshold(9)", x.threshold(9), 9);
        Check.due("threshold(1)", x.threshold(1), -1);
        x.tell(1, 1);
        Check.due("above the budget", x.threshold(9), -1);
        for (int far : FAR) {
            Check.due("threshold(" + far + ")", x.threshold(far), -1);
        }
        x.pin(0, 1);
        Check.due("with no heat at all", x.threshold(0), 0);
    }

    private static void displaced() {
        Check.sentence("35: DISPLACED (bits). NONE: there is no THRESHOLD, and for others.");
        WarmExtents x = Check.known(new int[] {0, 8}, new int[] {2, 1});
        x.tell(1, 1);
        Check.due("displaced(8)", x.displaced(8), 1);
        Check.due("displaced(0), it is in it", x.displaced(0), 0);
        Check.due("displaced(1)", x.displaced(1), -1);
        for (int far : FAR) {
            Check.due("displaced(" + far + ")", x.displaced(far), -1);
        }
    }

    private static void may() {
        Check.sentence("36: Whether there is something ALLOWED now with an EXTENT in it (in true) or without it. False for others.");
        WarmExtents x = new WarmExtents();
        for (int e = 0; e < 10; e++) {
            Check.due("may(" + e + ", true)", x.may(e, true), false);
            Check.due("may(" + e + ", false)", x.may(e, false), true);
        }
        for (int far : FAR) {
            Check.due("may(" + far + ", true)", x.may(far, true), false);
            Check.due("may(" + far + ", false)", x.may(far, false), false);
        }
        x.pin(2, 1);
        x.tell(1, 3);
        Check.due("at the budget", x.may(2, true), true);
        Check.due("without it", x.may(2, false), true);
        x.tell(1, 2);
        Check.due("above the budget", x.may(2, true), false);
        WarmExtents y = new WarmExtents();
        y.tell(0, 6);
        y.ask(3);
        y.ask(7);
        y.day(2);
        y.pin(1, 1);
        y.pin(0, 1);
        Check.due("no room, for two rest", y.may(1, true), false);
        Check.due("room for one block", y.may(0, true), true);
    }

    private static void next() {
        Check.sentence("37: New MOVES, were THE PLAN made now: how many (i NONE); the i-th: the EXTENT. -2 if there is none such.");
        WarmExtents x = new WarmExtents();
        Check.due("how many", x.next(-1), 0);
        Check.due("next(0)", x.next(0), -2);
        x.pin(0, 1);
        x.pin(9, 1);
        Check.due("how many", x.next(-1), 2);
        Check.due("next(0)", x.next(0), 0);
        Check.due("next(1)", x.next(1), 9);
        Check.due("next(2)", x.next(2), -2);
        for (int far : FAR) {
            Check.due("next(" + far + ")", x.next(far), far == -1 ? 2 : -2);
        }
        Check.due("nothing is done", x.move(-1, 0), 0);
    }

    private static void enough() {
        Check.sentence("38: The least BUDGET (0 .. 12) with which THE SET, were THE PLAN made now, is of the WORTH that it is with 12.");
        WarmExtents x = new WarmExtents();
        Check.due("for nothing: 0", x.enough(), 0);
        x.pin(0, 1);
        Check.due("for one", x.enough(), 1);
        x.pin(7, 1);
        Check.due("for five", x.enough(), 5);
        x.pin(3, 1);
        Check.due("for nine", x.enough(), 9);
        x.tell(1, 0);
        Check.due("whatever the budget is", x.enough(), 9);
        Check.due("it is as it was", x.is(5), 0);
    }

    /** 3, 6 and 9 rest no more; their nine blocks are dirty, and three of others shall come. */
    private static void enoughOfAll() {
        Check.sentence("38: The least BUDGET (0 .. 12)");
        WarmExtents x = new WarmExtents();
        x.tell(0, 6);
        x.ask(3);
        x.ask(6);
        x.ask(9);
        x.day(8);
        x.day(7);
        Check.due("nine are fast", x.free(0), -1);
        for (int e : new int[] {3, 6, 9}) {
            for (int b = 0; b < SIZES[e]; b++) {
                x.write(e, b, 1);
            }
            x.pin(e, 2);
        }
        Check.due("nine home", x.enough(), 9);
        x.pin(2, 1);
        Check.due("and three come", x.enough(), 12);
        Check.due("worth(11)", x.worth(11) < x.worth(12), true);
    }

    private static void gained() {
        Check.sentence("39: GAINED. Integer.MIN_VALUE: it is SLOW, and for others.");
        WarmExtents x = new WarmExtents();
        Check.due("slow", x.gained(0), Check.MIN);
        x.tell(0, 1);
        x.ask(1);
        x.day(1);
        Check.due("on its way", x.gained(1), Check.MIN);
        x.day(1);
        Check.due("fast", x.gained(1), -18);
        for (int far : FAR) {
            Check.due("gained(" + far + ")", x.gained(far), Check.MIN);
        }
    }

    private static void foretold() {
        Check.sentence("40: FORETOLD: whether an EXTENT is FAST (1, 0). NONE for others.");
        WarmExtents x = new WarmExtents();
        x.ask(0);
        Check.due("foretold(1, 0)", x.foretold(1, 0), 1);
        Check.due("foretold(8, 0)", x.foretold(8, 0), 1);
        Check.due("foretold(8, 9)", x.foretold(8, 9), 0);
        Check.due("foretold(0, 0)", x.foretold(0, 0), -1);
        Check.due("foretold(9, 0)", x.foretold(9, 0), -1);
        for (int far : FAR) {
            Check.due("foretold(" + far + ", 0)", x.foretold(far, 0), -1);
            Check.due("foretold(1, " + far + ")", x.foretold(1, far), -1);
        }
        Check.due("it is slow yet", x.where(0), 0);
    }

    private static void copies() {
        Check.sentence("41: FORETOLD: how many COPIES are made. NONE for others.");
        WarmExtents x = new WarmExtents();
        Check.due("none", x.copies(8), 0);
        x.ask(3);
        x.day(1);
        Check.due("those made are not counted", x.copies(8), 1);
        Check.due("copies(1)", x.copies(1), 1);
        Check.due("copies(0)", x.copies(0), -1);
        Check.due("copies(9)", x.copies(9), -1);
        for (int far : FAR) {
            Check.due("copies(" + far + ")", x.copies(far), -1);
        }
        Check.due("none is made", x.is(10), 3);
    }

    private static void would() {
        Check.sentence("42: WOULD COST. NONE for others.");
        WarmExtents x = new WarmExtents();
        Check.due("would(0) without", x.would(0), -1);
        for (int i = 0; i < 4; i++) {
            Check.read(x, "read 0,0;".repeat(i));
        }
        for (int i = 0; i < 4; i++) {
            Check.due("would(" + i + ")", x.would(i), 8 * i);
        }
        Check.due("would(4)", x.would(4), -1);
        for (int far : FAR) {
            Check.due("would(" + far + ")", x.would(far), -1);
        }
        Check.due("no cost", x.is(3), 0);
    }

    private static void cheapest() {
        Check.sentence("43: Which TEXT WOULD COST least, of like ones the lowest. NONE: there is none.");
        WarmExtents x = new WarmExtents();
        Check.due("none", x.cheapest(), -1);
        Check.read(x, "write 0,0,1;");
        Check.due("just one", x.cheapest(), 0);
        Check.read(x, "read 0,0;");
        Check.read(x, "read 1,0;");
        Check.due("of like ones the lowest", x.cheapest(), 1);
        Check.read(x, "");
        Check.due("for nothing", x.cheapest(), 3);
        x.back();
        Check.due("none again", x.cheapest(), -1);
    }

    private static void rank() {
        Check.sentence("44: The EXTENT than which i others are HOTTER. NONE for others.");
        WarmExtents x = new WarmExtents();
        x.read(9, 0);
        Check.due("rank(0)", x.rank(0), 9);
        Check.due("rank(1)", x.rank(1), 0);
        Check.due("rank(9)", x.rank(9), 8);
        for (int far : FAR) {
            Check.due("rank(" + far + ")", x.rank(far), -1);
        }
    }

    private static void coldest() {
        Check.sentence("45: The EXTENT on a disk (1 FAST, 0 SLOW) than which all others on it are HOTTER. NONE: there is none, and for others.");
        WarmExtents x = new WarmExtents();
        Check.due("none is fast", x.coldest(1), -1);
        Check.due("all are alike", x.coldest(0), 9);
        Check.makeFast(x, 0);
        Check.due("just one is fast", x.coldest(1), 0);
        x.read(0, 0);
        Check.due("the hottest of all, but alone there", x.coldest(1), 0);
        Check.due("coldest(2)", x.coldest(2), -1);
        for (int far : FAR) {
            Check.due("coldest(" + far + ")", x.coldest(far), -1);
        }
    }

    private static void warmth() {
        Check.sentence("46: HEATS of EXTENTS on a disk (1 FAST, 0 SLOW) together. NONE for others.");
        WarmExtents x = new WarmExtents();
        Check.due("none is fast", x.warmth(1), 0);
        Check.due("all are cold", x.warmth(0), 0);
        x.read(0, 0);
        x.read(9, 0);
        Check.due("0 and 9", x.warmth(0), 16);
        Check.makeFast(x, 9);
        Check.due("0", x.warmth(0), 8);
        Check.due("9", x.warmth(1), 8);
        Check.due("warmth(2)", x.warmth(2), -1);
        for (int far : FAR) {
            Check.due("warmth(" + far + ")", x.warmth(far), -1);
        }
    }

    private static void cools() {
        Check.sentence("47: Behind how many EPOCHS the HEAT of an EXTENT is 0, were it not accessed. NONE for others.");
        WarmExtents x = new WarmExtents();
        Check.due("it is 0", x.cools(0), 0);
        x.read(0, 0);
        int[] due = {4, 3, 2, 1, 0, 0};
        for (int i = 0; i < due.length; i++) {
            Check.due("heat " + x.heat(0), x.cools(0), due[i]);
            x.day(4);
        }
        Check.read(x, "loop 9{loop 9{loop 9{write 9,0,1;}}}");
        x.played(0);
        x.played(0);
        x.played(0);
        Check.due("9999", x.heat(9), 9999);
        Check.due("9999", x.cools(9), 14);
        for (int far : FAR) {
            Check.due("cools(" + far + ")", x.cools(far), -1);
        }
    }

    private static void share() {
        Check.sentence("48: ACCESSES on FAST by all ACCESSES, divided as floats (0 without any): its bits.");
        WarmExtents x = new WarmExtents();
        Check.due("without any", x.share(), 0);
        x.read(0, 0);
        Check.due("none of one", x.share(), 0);
        WarmExtents y = new WarmExtents();
        Check.makeFast(y, 0);
        Check.due("without any", y.share(), 0);
        y.read(0, 0);
        Check.due("all: 1", y.share(), 0x3f800000);
        y.read(1, 0);
        Check.due("a half", y.share(), 0x3f000000);
        y.read(1, 0);
        Check.due("a third", y.share(), 0x3eaaaaab);
    }

    private static void mean() {
        Check.sentence("49: COST by all ACCESSES, divided as doubles (0 without any): its bits.");
        WarmExtents x = new WarmExtents();
        Check.due("without any", x.mean(), 0L);
        x.ask(0);
        x.day(1);
        Check.due("a cost, but no access", x.mean(), 0L);
        x.read(0, 0);
        Check.due("10 by 1", x.mean(), 0x4024000000000000L);
        x.read(0, 0);
        x.read(0, 0);
        Check.due("12 by 3", x.mean(), 0x4010000000000000L);
        WarmExtents y = new WarmExtents();
        Check.makeFast(y, 0);
        y.crash();
        y.back();
        Check.due("without any again", y.mean(), 0L);
        WarmExtents z = new WarmExtents();
        z.write(0, 0, 1);
        z.read(0, 0);
        z.read(0, 0);
        Check.due("26 by 3", z.mean(), 0x4021555555555555L);
    }

    private static void book() {
        Check.sentence("50: BOOK: how many (i NONE); the i-th, from the eldest on: 0 CLOCK, 1 what ... 2 and 3 its numbers. -2 if there is none such, and for others.");
        WarmExtents x = new WarmExtents();
        Check.due("how many", x.book(-1, 0), 0);
        Check.due("how many, for any what", x.book(-1, 9), 0);
        Check.due("book(0, 0)", x.book(0, 0), -2);
        x.day(1);
        x.pin(9, 2);
        x.pin(0, 1);
        int[] due = {1, 5, 9, 2};
        for (int what = 0; what <= 3; what++) {
            Check.due("book(0, " + what + ")", x.book(0, what), due[what]);
            Check.due("book(2, " + what + ")", x.book(2, what), -2);
        }
        Check.due("book(0, 4)", x.book(0, 4), -2);
        Check.due("book(1, 2)", x.book(1, 2), 0);
        for (int far : FAR) {
            Check.due("book(" + far + ", 0)", x.book(far, 0), far == -1 ? 2 : -2);
            Check.due("book(0, " + far + ")", x.book(0, far), -2);
        }
        for (int i = 0; i < 24; i++) {
            x.crash();
        }
        Check.due("full", x.book(-1, 0), 25);
        Check.due("the eldest: pin(0, 1)", x.book(0, 2), 0);
        Check.due("book(24, 1)", x.book(24, 1), 4);
        Check.due("book(25, 1)", x.book(25, 1), -2);
    }

    private static void ledger() {
        Check.sentence("51: BY THE BOOK: how many lines there are of a kind. NONE for others (0 .. 5).");
        WarmExtents x = new WarmExtents();
        for (int kind = 0; kind <= 5; kind++) {
            Check.due("ledger(" + kind + ") at first", x.ledger(kind), 0);
        }
        Check.makeFast(x, 0);
        x.ask(0);
        x.drop(0);
        x.day(3);
        x.crash();
        x.pin(0, 1);
        for (int kind = 0; kind <= 5; kind++) {
            Check.due("ledger(" + kind + ")", x.ledger(kind), 1);
        }
        Check.due("ledger(6)", x.ledger(6), -1);
        for (int far : FAR) {
            Check.due("ledger(" + far + ")", x.ledger(far), -1);
        }
        for (int i = 0; i < 26; i++) {
            x.crash();
        }
        Check.due("25 lines at most", x.ledger(4), 25);
        Check.due("those that are out don't count", x.ledger(5), 0);
    }

    private static void about() {
        Check.sentence("54: 0 TEXTS, 1 STEPS that can be taken back, 2 bytes of the tape. -2 for others.");
        WarmExtents x = new WarmExtents();
        for (int what = 0; what <= 2; what++) {
            Check.due("about(" + what + ") at first", x.about(what), 0);
        }
        for (int i = 0; i < 31; i++) {
            x.read(0, 0);
        }
        for (int i = 0; i < 5; i++) {
            Check.read(x, "tick;");
        }
        Check.due("texts: four at most", x.about(0), 4);
        Check.due("steps: thirty at most", x.about(1), 30);
        Check.due("bytes of the tape that stays", x.about(2), 5);
        for (int far : new int[] {-1, -2, 3, 4, Integer.MAX_VALUE, Integer.MIN_VALUE}) {
            Check.due("about(" + far + ")", x.about(far), -2);
        }
    }
}

/** Part I of the document at its edges, sentence by sentence: extents, disks, heats, heads, accesses. */
public final class EdgesOfAccessTest {
    private static final int[] SIZES = {1, 2, 3, 4, 1, 2, 3, 4, 1, 2};

    public static void main(String[] args) {
        extentsAndBlocks();
        positions();
        values();
        slowDisk();
        fastDisk();
        aSlotForEachBlock();
        slowAtFirst();
        numbersAtFirst();
        restsAndPinsAtFirst();
        greatestHeat();
        heatAtFirst();
        countsOfAnEpoch();
        oneMoveOfEach();
        slotsOfAMove();
        goneOnWith();
        latestHead();
        behindTheLastPosition();
        eldestHead();
        fourthOfAStream();
        streamOnSlow();
        streamOnFast();
        copiedNoMore();
        Check.end("EdgesOfAccessTest");
    }

    private static void extentsAndBlocks() {
        Check.sentence("EXTENTS 0 .. 9, their SIZES 1 2 3 4 1 2 3 4 1 2: BLOCKS 0 .. SIZE - 1.");
        WarmExtents x = new WarmExtents();
        int value = 0;
        for (int e = 0; e < 10; e++) {
            Check.due("read(" + e + ", -1)", x.read(e, -1), -1);
            for (int b = 0; b < SIZES[e]; b++) {
                Check.due("read(" + e + ", " + b + ")", x.read(e, b), value);
                value++;
            }
            Check.due("read behind the last block of " + e, x.read(e, SIZES[e]), -1);
        }
        Check.due("read(-1, 0)", x.read(-1, 0), -1);
        Check.due("read(10, 0)", x.read(10, 0), -1);
    }

    private static void positions() {
        Check.sentence("POSITIONS 0 .. 22: all BLOCKS, EXTENT by EXTENT.");
        WarmExtents x = new WarmExtents();
        int position = 0;
        for (int e = 0; e < 10; e++) {
            for (int b = 0; b < SIZES[e]; b++) {
                Check.due("position(" + e + ", " + b + ")", x.position(e, b), position);
                position++;
            }
        }
        x.write(9, 1, 500);
        Check.due("the last position", x.on(0, 22), 500);
    }

    private static void values() {
        Check.sentence("VALUES 0 .. 999.");
        WarmExtents x = new WarmExtents();
        Check.due("write(2, 0, 999)", x.write(2, 0, 999), 0);
        Check.due("read(2, 0)", x.read(2, 0), 999);
        Check.due("write(2, 0, 1000)", x.write(2, 0, 1000), -1);
        Check.due("write(2, 0, -1)", x.write(2, 0, -1), -1);
        Check.due("read(2, 0)", x.read(2, 0), 999);
        Check.due("write(2, 0, 0)", x.write(2, 0, 0), 0);
        Check.due("read(2, 0)", x.read(2, 0), 0);
    }

    private static void slowDisk() {
        Check.sentence("THE SLOW disk: a VALUE at each POSITION (at first the POSITION).");
        WarmExtents x = new WarmExtents();
        for (int p = 0; p <= 22; p++) {
            Check.due("on(0, " + p + ")", x.on(0, p), p);
        }
        Check.due("on(0, 23)", x.on(0, 23), -1);
        Check.due("on(0, -1)", x.on(0, -1), -1);
    }

    private static void fastDisk() {
        Check.sentence("THE FAST disk: SLOTS 0 .. 8, each with a VALUE (at first 0), free or not (at first free).");
        WarmExtents x = new WarmExtents();
        for (int s = 0; s <= 8; s++) {
            Check.due("on(1, " + s + ")", x.on(1, s), 0);
            Check.due("free(" + s + ")", x.free(s), s);
        }
        Check.due("on(1, 9)", x.on(1, 9), -1);
        Check.due("free(9)", x.free(9), -1);
        x.tell(0, 6);
        x.ask(3);
        x.ask(6);
        x.ask(1);
        x.ask(0);
        x.day(3);
        Check.due("4 and 3 and 2 blocks are fast", x.where(3) + x.where(6) + x.where(1), 3);
        Check.due("the last slot", x.slot(1, 1), 8);
        Check.due("no slot is free", x.free(0), -1);
        Check.due("a fourth extent has none", x.where(0), 0);
    }

    private static void aSlotForEachBlock() {
        Check.sentence("a FAST one has a SLOT for each BLOCK.");
        WarmExtents x = new WarmExtents();
        Check.makeFast(x, 7);
        for (int b = 0; b < 4; b++) {
            Check.due("slot(7, " + b + ")", x.slot(7, b), b);
            Check.due("holder(" + b + ")", x.holder(b), 16 + b);
        }
        Check.due("slot(7, 4)", x.slot(7, 4), -1);
        Check.due("holder(4)", x.holder(4), -1);
    }

    private static void slowAtFirst() {
        Check.sentence("Each EXTENT is SLOW (at first) or FAST;");
        WarmExtents x = new WarmExtents();
        for (int e = 0; e < 10; e++) {
            Check.due("where(" + e + ")", x.where(e), 0);
            Check.due("slot(" + e + ", 0)", x.slot(e, 0), -1);
        }
        Check.makeFast(x, 9);
        Check.due("where(9)", x.where(9), 1);
        Check.due("where(8)", x.where(8), 0);
    }

    private static void numbersAtFirst() {
        Check.sentence("CLOCK, EPOCH, COST: at first 0. X: at first 409. PACE 0 .. 6 (at first 3), "
                + "BUDGET 0 .. 12 (at first 6), PRICE 0 .. 40 (at first 4).");
        WarmExtents x = new WarmExtents();
        int[] first = {0, 409, 0, 0, 3, 6, 4};
        int[] most = {6, 12, 40};
        for (int what = 0; what < first.length; what++) {
            Check.due("is(" + what + ")", x.is(what), first[what]);
        }
        for (int what = 0; what < 3; what++) {
            Check.due("least of " + what, x.tell(what, 0), true);
            Check.due("too small for " + what, x.tell(what, -1), false);
            Check.due("it", x.is(4 + what), 0);
            Check.due("most of " + what, x.tell(what, most[what]), true);
            Check.due("too large for " + what, x.tell(what, most[what] + 1), false);
            Check.due("it", x.is(4 + what), most[what]);
        }
    }

    private static void restsAndPinsAtFirst() {
        Check.sentence("PINS: none, FAST or SLOW for each EXTENT (at first none). REST of each EXTENT: an EPOCH (at first 0).");
        WarmExtents x = new WarmExtents();
        for (int e = 0; e < 10; e++) {
            Check.due("pin of " + e, x.of(e, 4), 0);
            Check.due("rest of " + e, x.of(e, 3), 0);
            Check.due("pin(" + e + ", 0)", x.pin(e, 0), false);
            Check.due("pin(" + e + ", 2)", x.pin(e, 2), true);
            Check.due("pin(" + e + ", 3)", x.pin(e, 3), false);
            Check.due("pin(" + e + ", -1)", x.pin(e, -1), false);
            Check.due("pin of " + e, x.of(e, 4), 2);
        }
    }

    /** 0 is written 832 times: HEAT 9984. */
    private static WarmExtents nearlyGreatestHeat() {
        WarmExtents x = new WarmExtents();
        Check.read(x, "loop 5{loop 6{loop 9{write 0,0,1;}}}");
        x.played(0);
        x.played(0);
        x.played(0);
        for (int i = 0; i < 22; i++) {
            x.write(0, 0, 1);
        }
        return x;
    }

    private static void greatestHeat() {
        Check.sentence("HEAT is 8 more by a READ, 12 by a WRITE (9999 at most), bit 0 of SEEN is set.");
        WarmExtents x = nearlyGreatestHeat();
        Check.due("832 writes", x.heat(0), 9984);
        x.read(0, 0);
        Check.due("a read more", x.heat(0), 9992);
        x.read(0, 0);
        Check.due("not 10000", x.heat(0), 9999);
        x.read(0, 0);
        Check.due("no more", x.heat(0), 9999);
        WarmExtents y = nearlyGreatestHeat();
        y.write(0, 0, 1);
        Check.due("a write more", y.heat(0), 9996);
        y.write(0, 0, 1);
        Check.due("not 10008", y.heat(0), 9999);
        Check.due("seen, often, is one bit", y.of(0, 0), 1);
    }

    private static void heatAtFirst() {
        Check.sentence("HEAT of each EXTENT 0 .. 9999 (at first 0); SEEN, 8 bits (at first 0);");
        WarmExtents x = new WarmExtents();
        for (int e = 0; e < 10; e++) {
            Check.due("heat(" + e + ")", x.heat(e), 0);
            Check.due("seen of " + e, x.of(e, 0), 0);
        }
        x.day(8);
        Check.due("no less than 0", x.heat(0), 0);
        x.read(0, 0);
        for (int bits = 2; bits <= 128; bits *= 2) {
            x.day(4);
            Check.due("seen", x.of(0, 0), bits);
        }
        Check.due("heat, of 8 at first", x.heat(0), 0);
        x.day(4);
        Check.due("the ninth bit is lost", x.of(0, 0), 0);
    }

    private static void countsOfAnEpoch() {
        Check.sentence("PLAIN and STREAMED, how often so in this EPOCH;");
        WarmExtents x = new WarmExtents();
        x.scan(3, 3);
        x.day(3);
        Check.due("plain ahead of its end", x.of(3, 1), 3);
        Check.due("streamed ahead of its end", x.of(3, 2), 1);
        x.day(1);
        Check.due("plain behind it", x.of(3, 1), 0);
        Check.due("streamed behind it", x.of(3, 2), 0);
    }

    private static void oneMoveOfEach() {
        Check.sentence("MOVES, in order, one at most of each EXTENT:");
        WarmExtents x = new WarmExtents();
        x.tell(0, 0);
        for (int e = 9; e >= 0; e--) {
            Check.due("ask(" + e + ")", x.ask(e), 10 - e);
            Check.due("ask(" + e + ") at once again", x.ask(e), -1);
        }
        for (int e = 0; e < 10; e++) {
            Check.due("ask(" + e + ") again", x.ask(e), -1);
            Check.due("moveOf(" + e + ")", x.moveOf(e), 9 - e);
        }
        Check.due("moves", x.move(-1, 0), 10);
    }

    private static void slotsOfAMove() {
        Check.sentence("one BEGUN to FAST has SLOTS (not free then) and BLOCKS that are COPIED.");
        WarmExtents x = new WarmExtents();
        x.ask(3);
        x.ask(0);
        Check.due("not begun: all slots are free", x.free(0), 0);
        x.day(1);
        Check.due("begun: its slots are not free", x.free(0), 4);
        Check.due("also that of a block that isn't copied", x.holder(3), 9);
        Check.due("the other one isn't begun", x.free(4), 4);
        Check.due("blocks that are to be copied yet", x.move(0, 3), 8);
    }

    private static void goneOnWith() {
        Check.sentence("is there a HEAD that awaits its POSITION, it is out, its length and 1 is the new one's; else that is 1;");
        WarmExtents x = new WarmExtents();
        Check.due("no head at first", x.head(-1, 0), 0);
        x.read(1, 0);
        Check.due("none awaited it: length", x.head(0, 1), 1);
        x.read(1, 1);
        Check.due("one head", x.head(-1, 0), 1);
        Check.due("gone on with: length", x.head(0, 1), 2);
        x.read(2, 1);
        Check.due("a block is left out: length", x.head(1, 1), 1);
        x.read(2, 1);
        Check.due("the same block again: length", x.head(1, 1), 1);
    }

    private static void latestHead() {
        Check.sentence("the new HEAD awaits the next POSITION (one that does so already is out) and is the latest;");
        WarmExtents x = new WarmExtents();
        x.read(1, 0);
        x.read(1, 1);
        x.read(3, 0);
        x.read(1, 1);
        Check.due("heads", x.head(-1, 0), 2);
        Check.due("the eldest awaits", x.head(0, 0), 7);
        Check.due("the latest awaits", x.head(1, 0), 3);
        Check.due("its length", x.head(1, 1), 1);
    }

    private static void behindTheLastPosition() {
        Check.sentence("POSITIONS 0 .. 22: ... the new HEAD awaits the next POSITION");
        WarmExtents x = new WarmExtents();
        x.read(9, 0);
        x.read(9, 1);
        Check.due("behind the last one", x.head(0, 0), 23);
        x.read(0, 0);
        Check.due("the first one isn't behind the last", x.head(1, 1), 1);
        Check.due("heads", x.head(-1, 0), 2);
        x.read(9, 1);
        Check.due("one of two that await 23 is out", x.head(-1, 0), 2);
        Check.due("length", x.head(1, 1), 1);
    }

    private static void eldestHead() {
        Check.sentence("of more than 3 the eldest is out.");
        WarmExtents x = new WarmExtents();
        x.read(0, 0);
        x.read(2, 0);
        x.read(3, 0);
        Check.due("three", x.head(-1, 0), 3);
        Check.due("the eldest", x.head(0, 0), 1);
        x.read(5, 0);
        Check.due("three", x.head(-1, 0), 3);
        Check.due("the eldest", x.head(0, 0), 4);
        x.read(2, 1);
        Check.due("three, one was gone on with", x.head(-1, 0), 3);
        Check.due("the eldest", x.head(0, 0), 7);
        x.read(1, 0);
        Check.due("the first was out: length", x.head(2, 1), 1);
    }

    private static void fourthOfAStream() {
        Check.sentence("Is the length 4 or more, the ACCESS is STREAMED:");
        WarmExtents x = new WarmExtents();
        int[] streamed = {0, 0, 0, 1, 2, 3};
        for (int i = 0; i < streamed.length; i++) {
            x.read(i < 4 ? 7 : i == 4 ? 8 : 9, i < 4 ? i : 0);
            Check.due("streamed of " + (i + 1), x.is(9), streamed[i]);
        }
        Check.due("warm by three", x.heat(7), 24);
    }

    private static void streamOnSlow() {
        Check.sentence("warms nothing (costs, VALUES, DIRTY, COPIED are as told);");
        WarmExtents x = new WarmExtents();
        x.ask(3);
        x.day(1);
        x.scan(2, 2);
        int cost = x.is(3);
        Check.due("write(3, 0, 70)", x.write(3, 0, 70), 0);
        Check.due("streamed", x.of(3, 2), 1);
        Check.due("plain", x.of(3, 1), 0);
        Check.due("heat", x.heat(3), 0);
        Check.due("seen", x.of(3, 0), 0);
        Check.due("cost", x.is(3), cost + 10);
        Check.due("value", x.on(0, 6), 70);
        Check.due("copied no more", x.move(0, 3), 9);
        x.read(3, 1);
        Check.due("cost of a read", x.is(3), cost + 18);
    }

    private static void streamOnFast() {
        Check.sentence("it is counted so, warms nothing (costs, VALUES, DIRTY, COPIED are as told);");
        WarmExtents x = new WarmExtents();
        Check.makeFast(x, 3);
        x.scan(2, 2);
        int cost = x.is(3);
        Check.due("write(3, 0, 70)", x.write(3, 0, 70), 1);
        Check.due("streamed", x.of(3, 2), 1);
        Check.due("streamed in all", x.is(9), 1);
        Check.due("heat", x.heat(3), 0);
        Check.due("cost", x.is(3), cost + 2);
        Check.due("value", x.on(1, 0), 70);
        Check.due("dirty", x.of(3, 5), 1);
        Check.due("accesses on fast", x.is(8), 1);
        x.read(3, 1);
        Check.due("cost of a read", x.is(3), cost + 3);
    }

    private static void copiedNoMore() {
        Check.sentence("on SLOW it is COPIED no more, if there is a MOVE.");
        WarmExtents x = new WarmExtents();
        x.write(2, 1, 80);
        Check.due("without a move", x.move(-1, 0), 0);
        x.ask(2);
        x.write(2, 1, 81);
        Check.due("not begun", x.move(0, 3), 7);
        x.tell(0, 2);
        x.day(1);
        Check.due("two are copied", x.move(0, 3), 4);
        x.write(2, 2, 82);
        Check.due("that one wasn't", x.move(0, 3), 4);
        x.write(2, 0, 83);
        Check.due("that one was", x.move(0, 3), 5);
        x.read(2, 1);
        Check.due("a read undoes none", x.move(0, 3), 5);
    }
}

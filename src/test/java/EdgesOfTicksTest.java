/** Part I of the document at its edges, sentence by sentence: moves, ticks, epochs, crashes, draws, the book, steps. */
public final class EdgesOfTicksTest {
    public static void main(String[] args) {
        noPace();
        noCopyLeft();
        aCopyLeft();
        nothingToCopy();
        tooFewSlots();
        slotsEnough();
        lowestSlots();
        noneCopied();
        copiesOfATick();
        lowestBlocks();
        writtenWhileCopied();
        wholeWithoutACopy();
        wholeTwo();
        rests();
        fourDividesClock();
        aged();
        saved();
        crashOfNothing();
        crashOfMoves();
        crashOfFastOnes();
        draws();
        fullBook();
        linesWithoutNumbers();
        thirtySteps();
        stepsThatAreTogether();
        Check.end("EdgesOfTicksTest");
    }

    private static int last(WarmExtents x, int what) {
        return x.book(x.book(-1, 0) - 1, what);
    }

    private static void noPace() {
        Check.sentence("A TICK: CLOCK is one more. MOVING: there are PACE COPIES;");
        WarmExtents x = new WarmExtents();
        x.tell(0, 0);
        x.ask(0);
        Check.due("day(1)", x.day(1), 1);
        Check.due("no pace: not begun", x.move(0, 2), 0);
        Check.due("no copies", x.is(10), 0);
        x.undo();
        x.tell(0, 6);
        x.ask(7);
        x.ask(3);
        x.day(1);
        Check.due("greatest pace: copies", x.is(10), 6);
        Check.due("the first is whole, the second too", x.is(11), 2);
        Check.due("one block of the third is copied", x.move(0, 3), 14);
    }

    private static void noCopyLeft() {
        Check.sentence("MOVES are gone through in order, as long as there is a COPY left: one that isn't BEGUN is;");
        WarmExtents x = new WarmExtents();
        x.ask(2);
        x.ask(0);
        x.day(1);
        Check.due("three blocks, three copies", x.where(2), 1);
        Check.due("the next isn't begun", x.move(0, 2), 0);
        Check.due("it has no slot", x.free(0), 3);
        Check.due("it isn't written down", x.ledger(0), 1);
    }

    private static void aCopyLeft() {
        Check.sentence("MOVES are gone through in order, as long as there is a COPY left:");
        WarmExtents x = new WarmExtents();
        x.ask(1);
        x.ask(3);
        x.day(1);
        Check.due("two blocks, three copies", x.where(1), 1);
        Check.due("the next is begun", x.move(0, 2), 1);
        Check.due("one of it is copied", x.move(0, 3), 14);
        Check.due("written down", x.ledger(0), 2);
    }

    private static void nothingToCopy() {
        Check.sentence("as long as there is a COPY left: one that isn't BEGUN is; but one to FAST,");
        WarmExtents x = new WarmExtents();
        Check.makeFast(x, 3);
        x.tell(0, 1);
        x.ask(3);
        x.ask(0);
        x.day(1);
        Check.due("one without dirty blocks takes no copy", x.where(3), 0);
        Check.due("so one is left for the next", x.where(0), 1);
        Check.due("one to slow needs no room", x.slot(0, 0), 4);
    }

    private static void tooFewSlots() {
        Check.sentence("one to FAST, if there are fewer free SLOTS than its SIZE, is left as it is, and gone on behind it;");
        WarmExtents x = new WarmExtents();
        x.tell(0, 6);
        x.ask(3);
        x.ask(7);
        x.day(2);
        Check.due("eight slots are not free", x.free(0), 8);
        x.ask(1);
        x.ask(8);
        x.day(1);
        Check.due("two blocks: left as it is", x.move(0, 0), 1);
        Check.due("not begun", x.move(0, 2), 0);
        Check.due("none copied", x.move(0, 3), 3);
        Check.due("one block: gone on", x.where(8), 1);
        Check.due("no slot is free", x.free(0), -1);
        x.crash();
        Check.due("it is not begun, so no slot was freed", last(x, 3), 0);
    }

    private static void slotsEnough() {
        Check.sentence("if there are fewer free SLOTS than its SIZE,");
        WarmExtents x = new WarmExtents();
        x.tell(0, 6);
        x.ask(3);
        x.ask(6);
        x.day(2);
        Check.due("seven slots are not free", x.free(0), 7);
        x.ask(2);
        x.ask(9);
        x.day(1);
        Check.due("three blocks, two slots", x.move(0, 0), 2);
        Check.due("two blocks, two slots", x.where(9), 1);
        Check.due("the last slot", x.slot(9, 1), 8);
    }

    private static void lowestSlots() {
        Check.sentence("when it is BEGUN it has the lowest free SLOTS, by BLOCKS,");
        WarmExtents x = new WarmExtents();
        Check.makeFast(x, 0);
        Check.makeFast(x, 1);
        x.ask(0);
        x.day(1);
        Check.makeFast(x, 4);
        Check.due("the slot that is free again", x.slot(4, 0), 0);
        x.crash();
        x.ask(4);
        x.day(1);
        Check.due("it goes home", x.where(4), 0);
        Check.makeFast(x, 6);
        Check.due("block 0 in the lowest one", x.slot(6, 0), 0);
        Check.due("block 1 behind those that are not free", x.slot(6, 1), 3);
        Check.due("block 2", x.slot(6, 2), 4);
        Check.due("holder", x.holder(3), 14);
    }

    private static void noneCopied() {
        Check.sentence("and none COPIED. Then COPIES, as long as there are some:");
        WarmExtents x = new WarmExtents();
        x.ask(3);
        x.day(1);
        Check.due("three are copied", x.move(0, 3), 8);
        x.drop(3);
        x.ask(3);
        Check.due("none of the new move", x.move(0, 3), 15);
        x.tell(0, 1);
        x.day(1);
        Check.due("one by a tick", x.move(0, 3), 14);
    }

    private static void copiesOfATick() {
        Check.sentence("Then COPIES, as long as there are some: ... Each COPY costs 9.");
        WarmExtents x = new WarmExtents();
        x.ask(1);
        x.day(1);
        Check.due("no more than there are blocks", x.is(10), 2);
        Check.due("cost", x.is(3), 18);
        x.ask(3);
        x.day(1);
        Check.due("no more than pace", x.is(10), 5);
        Check.due("cost", x.is(3), 45);
        x.day(1);
        Check.due("the last one", x.is(10), 6);
        x.day(2);
        Check.due("none are left", x.is(10), 6);
        Check.due("cost", x.is(3), 54);
    }

    private static void lowestBlocks() {
        Check.sentence("to FAST: the lowest BLOCK that isn't COPIED: its VALUE on SLOW is in its SLOT, it is COPIED; "
                + "to SLOW: the lowest DIRTY BLOCK: its VALUE is at home, it is DIRTY no more.");
        WarmExtents x = new WarmExtents();
        x.tell(0, 1);
        x.ask(3);
        for (int b = 0; b < 4; b++) {
            Check.due("not there yet, block " + b, x.on(1, b), 0);
            x.day(1);
            Check.due("there, block " + b, x.on(1, b), 6 + b);
        }
        Check.due("whole with the last one", x.where(3), 1);
        x.write(3, 3, 93);
        x.write(3, 2, 92);
        x.ask(3);
        x.day(1);
        Check.due("the lower one is home", x.on(0, 8), 92);
        Check.due("the other isn't", x.on(0, 9), 9);
        Check.due("dirty", x.of(3, 5), 8);
        x.day(1);
        Check.due("the other one", x.on(0, 9), 93);
        Check.due("slow with the last one", x.where(3), 0);
    }

    private static void writtenWhileCopied() {
        Check.sentence("to SLOW: none DIRTY");
        WarmExtents x = new WarmExtents();
        Check.makeFast(x, 1);
        x.write(1, 0, 50);
        x.write(1, 1, 51);
        x.ask(1);
        x.tell(0, 1);
        x.day(1);
        x.write(1, 0, 60);
        x.day(1);
        Check.due("the same block once more", x.on(0, 1), 60);
        Check.due("the other is dirty", x.where(1), 1);
        x.day(1);
        Check.due("none is", x.where(1), 0);
        Check.due("nothing is lost", x.read(1, 1), 51);
    }

    private static void wholeWithoutACopy() {
        Check.sentence("Then all BEGUN MOVES that are WHOLE (also without a COPY in this TICK)");
        WarmExtents x = new WarmExtents();
        x.tell(0, 6);
        x.ask(0);
        x.ask(1);
        x.ask(4);
        x.day(1);
        Check.due("three are fast", x.is(11), 3);
        x.tell(0, 1);
        x.ask(4);
        x.ask(1);
        x.ask(0);
        x.day(1);
        Check.due("three are slow again", x.is(11), 6);
        Check.due("without a copy more", x.is(10), 4);
        Check.due("in order", last(x, 2), 0);
        Check.due("no move is left", x.move(-1, 0), 0);
        Check.due("all slots are free", x.free(0) + x.free(4), 4);
    }

    private static void wholeTwo() {
        Check.sentence("are SWITCHED, in order: the EXTENT is there, none of it DIRTY; to SLOW: its SLOTS are free; REST is EPOCH and 3; the MOVE is out.");
        WarmExtents x = new WarmExtents();
        x.tell(0, 6);
        x.ask(4);
        x.ask(3);
        x.ask(0);
        x.day(1);
        Check.due("all moves are out", x.move(-1, 0), 0);
        int[] order = {4, 3, 0};
        for (int i = 0; i < 3; i++) {
            Check.due("line", x.book(3 + i, 1), 1);
            Check.due("its extent", x.book(3 + i, 2), order[i]);
            Check.due("not dirty", x.of(order[i], 5), 0);
        }
        x.write(3, 1, 9);
        x.write(3, 1, 9);
        x.ask(3);
        x.day(1);
        Check.due("slow", x.where(3), 0);
        Check.due("not dirty", x.of(3, 5), 0);
        Check.due("its slots are free", x.free(0), 1);
        Check.due("it has none", x.slot(3, 0), -1);
    }

    private static void rests() {
        Check.sentence("REST is EPOCH and 3;");
        WarmExtents x = new WarmExtents();
        x.day(3);
        Check.makeFast(x, 0);
        Check.due("switched in a tick whose end is an epoch's", x.of(0, 3), 3);
        Check.makeFast(x, 1);
        Check.due("switched in the next one", x.of(1, 3), 4);
    }

    private static void fourDividesClock() {
        Check.sentence("Then, if 4 divides CLOCK: THE PLAN is made (see II), EPOCH is one more,");
        WarmExtents x = new WarmExtents();
        for (int clock = 1; clock <= 9; clock++) {
            x.day(1);
            Check.due("epoch at clock " + clock, x.is(2), clock / 4);
            Check.due("plans at clock " + clock, x.ledger(3), clock / 4);
        }
        Check.due("the clock of the first", x.book(0, 0), 4);
        WarmExtents y = new WarmExtents();
        y.day(8);
        Check.due("two in one day", y.is(2), 2);
    }

    private static void aged() {
        Check.sentence("each HEAT is shifted right by 1, each SEEN left by 1 (8 bits stay),");
        WarmExtents x = new WarmExtents();
        x.read(0, 0);
        int[] heats = {4, 2, 1, 0, 0, 0, 0, 0};
        for (int i = 0; i < 8; i++) {
            x.day(4);
            Check.due("heat", x.heat(0), heats[i]);
            Check.due("seen", x.of(0, 0), 2 << i & 255);
        }
        for (int i = 0; i < 9; i++) {
            x.read(0, 0);
            x.day(4);
        }
        Check.due("seen in all epochs", x.of(0, 0), 254);
        x.read(0, 0);
        Check.due("seen in this one too", x.of(0, 0), 255);
        x.day(4);
        Check.due("seen", x.of(0, 0), 254);
    }

    private static void saved() {
        Check.sentence("HEATS and SEENS are SAVED (at first 0).");
        WarmExtents x = new WarmExtents();
        x.write(5, 0, 1);
        x.day(3);
        Check.due("saved heat, no epoch has ended", x.of(5, 6), 0);
        Check.due("saved seen", x.of(5, 7), 0);
        x.crash();
        Check.due("heat", x.heat(5), 0);
        Check.due("seen", x.of(5, 0), 0);
        x.write(5, 0, 1);
        x.day(1);
        Check.due("saved heat, as shifted", x.of(5, 6), 6);
        Check.due("saved seen, as shifted", x.of(5, 7), 2);
        x.write(5, 0, 1);
        x.crash();
        Check.due("heat", x.heat(5), 6);
        Check.due("seen", x.of(5, 0), 2);
    }

    private static void crashOfNothing() {
        Check.sentence("A CRASH: HEATS and SEENS are as SAVED, PLAIN and STREAMED are 0, there are no HEADS, no MOVES");
        WarmExtents x = new WarmExtents();
        Check.due("of a new object", x.crash(), 0);
        Check.due("moves that were gone", x.book(0, 2), 0);
        Check.due("slots that are free by it", x.book(0, 3), 0);
        Check.due("crashes", x.is(12), 1);
        x.scan(7, 7);
        x.crash();
        Check.due("plain", x.of(7, 1), 0);
        Check.due("streamed", x.of(7, 2), 0);
        Check.due("heads", x.head(-1, 0), 0);
        x.read(8, 0);
        Check.due("no stream is gone on with", x.head(0, 1), 1);
        Check.due("slow ones are not dirty", x.of(7, 5), 0);
    }

    private static void crashOfMoves() {
        Check.sentence("no MOVES (SLOTS of those BEGUN to FAST are free),");
        WarmExtents x = new WarmExtents();
        Check.makeFast(x, 1);
        x.write(1, 0, 9);
        x.write(1, 1, 9);
        x.tell(0, 2);
        x.ask(1);
        x.ask(3);
        x.write(1, 0, 8);
        x.tell(0, 3);
        x.day(1);
        Check.due("3 is begun", x.holder(2), 6);
        x.ask(1);
        x.ask(0);
        Check.due("slot of 1", x.where(1), 0);
        Check.due("moves gone", x.crash(), 3);
        Check.due("written down", last(x, 2), 3);
        Check.due("slots of 3 alone", last(x, 3), 4);
        Check.due("all slots are free", x.holder(2), -1);
        Check.due("no move", x.move(-1, 0), 0);
    }

    private static void crashOfFastOnes() {
        Check.sentence("all BLOCKS of FAST EXTENTS are DIRTY.");
        WarmExtents x = new WarmExtents();
        Check.makeFast(x, 2);
        x.write(2, 1, 41);
        x.write(2, 2, 42);
        x.ask(2);
        x.tell(0, 1);
        x.day(1);
        Check.due("begun to slow, one is dirty", x.of(2, 5), 4);
        x.crash();
        Check.due("its slots are its own", last(x, 3), 0);
        Check.due("still fast", x.slot(2, 2), 2);
        Check.due("all three are dirty", x.of(2, 5), 7);
        Check.due("a slow one's aren't", x.of(3, 5), 0);
        Check.due("nothing that was written is lost", x.read(2, 2), 42);
        x.tell(0, 6);
        x.ask(2);
        x.day(1);
        Check.due("three copies home", x.is(10), 3 + 1 + 3);
        Check.due("slow", x.where(2), 0);
        Check.due("nothing that was written is lost", x.read(2, 2), 42);
    }

    private static void draws() {
        Check.sentence("X: a draw: x is X, X is (X * 773 + 641) mod 31139 then.");
        WarmExtents x = new WarmExtents();
        x.years(9999, 1);
        Check.due("of the greatest seed", x.is(1), (20407 * 773 + 641) % 31139);
        int wanted = 409;
        for (int i = 0; i < 24; i++) {
            wanted = (wanted * 773 + 641) % 31139;
        }
        x.years(0, 24);
        Check.due("24 draws", x.is(1), wanted);
        x.day(8);
        x.read(0, 0);
        Check.due("nothing else draws", x.is(1), wanted);
    }

    private static void fullBook() {
        Check.sentence("Written down (BOOK, the latest 25):");
        WarmExtents x = new WarmExtents();
        Check.due("empty", x.book(-1, 0), 0);
        for (int i = 0; i < 25; i++) {
            x.pin(i % 10, 1 + i / 10 % 2);
        }
        Check.due("full", x.book(-1, 0), 25);
        Check.due("the eldest", x.book(0, 2), 0);
        Check.due("the latest", x.book(24, 2), 4);
        x.pin(9, 0);
        Check.due("full", x.book(-1, 0), 25);
        Check.due("the eldest is out", x.book(0, 2), 1);
        Check.due("the latest", x.book(24, 2), 9);
        Check.due("no line behind it", x.book(25, 2), -2);
    }

    private static void linesWithoutNumbers() {
        Check.sentence("PLANNED (THE SET, how many MOVES are new), CRASHED (how many MOVES were gone, how many SLOTS are free by it)");
        WarmExtents x = new WarmExtents();
        x.day(4);
        Check.due("planned", last(x, 1), 3);
        Check.due("no set", last(x, 2), 0);
        Check.due("no moves", last(x, 3), 0);
        x.ask(3);
        x.crash();
        Check.due("crashed", last(x, 1), 4);
        Check.due("a move", last(x, 2), 1);
        Check.due("that had no slots", last(x, 3), 0);
    }

    private static void thirtySteps() {
        Check.sentence("the latest 30 can be taken back, the latest first (all but TEXTS is as ahead of it).");
        WarmExtents x = new WarmExtents();
        for (int i = 1; i <= 30; i++) {
            x.write(0, 0, i);
        }
        Check.due("thirty", x.about(1), 30);
        x.write(0, 0, 31);
        Check.due("still thirty", x.about(1), 30);
        for (int i = 30; i >= 1; i--) {
            Check.due("undo()", x.undo(), i - 1);
            Check.due("on(0, 0)", x.on(0, 0), i);
        }
        Check.due("the first one can't", x.undo(), -1);
        Check.due("on(0, 0)", x.on(0, 0), 1);
        Check.due("cost of the first one", x.is(3), 10);
        x.read(0, 0);
        Check.read(x, "tick;");
        x.undo();
        Check.due("texts stay", x.about(0), 1);
    }

    private static void stepsThatAreTogether() {
        Check.sentence("by hand: ACCESSES (a scan together), PINS, PACE, BUDGET, PRICE told, MOVES asked, DROPPED, TICKS (together), a CRASH;");
        WarmExtents x = new WarmExtents();
        x.scan(0, 9);
        Check.due("a scan", x.about(1), 1);
        x.day(8);
        Check.due("ticks", x.about(1), 2);
        x.ask(0);
        x.drop(0);
        x.pin(0, 1);
        x.tell(0, 3);
        x.tell(1, 6);
        x.tell(2, 4);
        x.crash();
        x.read(0, 0);
        x.write(0, 0, 0);
        Check.due("nine more", x.about(1), 11);
        for (int i = 10; i >= 2; i--) {
            Check.due("undo()", x.undo(), i);
        }
        Check.due("accesses", x.is(7), 23);
        x.undo();
        Check.due("the ticks together", x.is(0), 0);
        x.undo();
        Check.due("the scan together", x.is(7), 0);
    }
}

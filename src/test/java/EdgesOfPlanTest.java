/** Part II of the document at its edges, sentence by sentence: the plan; and of part III what is asked about it. */
public final class EdgesOfPlanTest {
    public static void main(String[] args) {
        droppedInOrder();
        begunOnesStay();
        regardedAsDropped();
        lowestOfLikeOnes();
        noneIsWorthIt();
        nineSlots();
        begunToFast();
        begunToSlow();
        restOnFast();
        restOnSlow();
        restWithAMove();
        seenTwoBits();
        seenOfFastOnes();
        pinnedNotFast();
        streamedAsOftenAsPlain();
        sizesWithinBudget();
        dirtyOnesWithinBudget();
        noBudget();
        movesOutsideTheBudget();
        quarterOfHeat();
        pinnedWorth();
        priceOfCopies();
        orderOfNewMoves();
        noNewMoves();
        leastThreshold();
        greatestThreshold();
        heatThatIsThere();
        displacedOnes();
        Check.end("EdgesOfPlanTest");
    }

    private static void droppedInOrder() {
        Check.sentence("MOVES that are not BEGUN are DROPPED, in order");
        WarmExtents x = new WarmExtents();
        x.tell(0, 0);
        x.ask(5);
        x.ask(2);
        x.day(3);
        Check.due("not ahead of the plan", x.move(-1, 0), 2);
        x.day(1);
        Check.due("all are dropped", x.move(-1, 0), 0);
        Check.due("lines", x.book(-1, 0), 3);
        Check.due("dropped", x.book(0, 1), 2);
        Check.due("the first", x.book(0, 2), 5);
        Check.due("to fast", x.book(0, 3), 1);
        Check.due("the second", x.book(1, 2), 2);
        Check.due("planned behind it", x.book(2, 1), 3);
    }

    private static void begunOnesStay() {
        Check.sentence("MOVES that are not BEGUN are DROPPED,");
        WarmExtents x = new WarmExtents();
        x.day(3);
        x.ask(2);
        x.ask(3);
        x.ask(0);
        x.tell(0, 1);
        x.day(1);
        Check.due("moves", x.move(-1, 0), 1);
        Check.due("the one that is begun", x.move(0, 0), 2);
        Check.due("what it has copied", x.move(0, 3), 6);
        Check.due("two are dropped", x.ledger(2), 2);
    }

    private static void regardedAsDropped() {
        Check.sentence("(asked what it would be, they are regarded as DROPPED).");
        WarmExtents x = new WarmExtents();
        x.ask(3);
        Check.due("plan()", x.plan(), 0);
        Check.due("may(3, true)", x.may(3, true), false);
        Check.due("may(3, false)", x.may(3, false), true);
        Check.due("needs(8)", x.needs(8), -1);
        x.pin(3, 1);
        Check.due("a new move of it", x.next(0), 3);
        Check.due("needs(8)", x.needs(8), 4);
        Check.due("the move is there yet", x.move(-1, 0), 1);
        Check.due("not written down", x.ledger(2), 0);
    }

    private static void lowestOfLikeOnes() {
        Check.sentence("of all that are ALLOWED the one of most WORTH, of like ones that of the lowest number (bits).");
        WarmExtents x = Check.known(new int[] {4, 8}, new int[] {2, 2});
        x.tell(1, 1);
        Check.due("16 ahead of 256", x.plan(), 16);
        x.read(8, 0);
        Check.due("256 is worth more", x.plan(), 256);
        WarmExtents y = Check.known(new int[] {0, 1, 2}, new int[] {0, 2, 4});
        y.write(0, 0, 1);
        y.tell(1, 3);
        Check.due("heats 16 and 20", y.heat(0) + y.heat(1), 36);
        Check.due("and 36", y.heat(2), 36);
        Check.due("value(3)", y.value(3), 24);
        Check.due("value(4)", y.value(4), 24);
        Check.due("3 ahead of 4, though it has two", y.plan(), 3);
        WarmExtents z = Check.known(new int[] {2, 8, 9}, new int[] {4, 0, 2});
        z.write(8, 0, 1);
        z.tell(1, 3);
        Check.due("value(4)", z.value(4), 24);
        Check.due("value(768)", z.value(768), 24);
        Check.due("4 ahead of 768", z.plan(), 4);
    }

    private static void noneIsWorthIt() {
        Check.sentence("of all that are ALLOWED the one of most WORTH, of like ones");
        WarmExtents x = new WarmExtents();
        Check.due("of a new object", x.plan(), 0);
        Check.due("worth(12)", x.worth(12), 0);
        WarmExtents y = Check.known(new int[] {4}, new int[] {2});
        y.tell(2, 20);
        Check.due("worth nothing", y.value(16), 0);
        Check.due("none is the lowest number", y.plan(), 0);
        y.tell(2, 19);
        Check.due("worth 1", y.plan(), 16);
        y.tell(2, 21);
        Check.due("worth less than none", y.plan(), 0);
    }

    private static void nineSlots() {
        Check.sentence("ALLOWED: SIZES together 9 at most;");
        WarmExtents x = new WarmExtents();
        for (int e : new int[] {0, 3, 4, 7}) {
            x.pin(e, 1);
        }
        x.tell(1, 12);
        Check.due("nine", x.needs(1 + 8 + 128), 9);
        Check.due("ten", x.needs(1 + 8 + 16 + 128), -1);
        Check.due("ten", x.value(1 + 8 + 16 + 128), Check.MIN);
        Check.due("three of the four", x.plan(), 1 + 8 + 16);
        x.pin(4, 0);
        Check.due("all nine", x.plan(), 1 + 8 + 128);
    }

    private static void begunToFast() {
        Check.sentence("each EXTENT with a MOVE (BEGUN) is in it, if that is to FAST, else not;");
        WarmExtents x = new WarmExtents();
        x.ask(3);
        Check.due("not begun", x.plan(), 0);
        x.day(1);
        Check.due("begun", x.plan(), 8);
        Check.due("value(0)", x.value(0), Check.MIN);
        x.pin(3, 2);
        Check.due("pinned slow, too", x.plan(), 8);
        Check.due("may(3, false)", x.may(3, false), false);
    }

    private static void begunToSlow() {
        Check.sentence("with a MOVE (BEGUN) is in it, if that is to FAST, else not;");
        WarmExtents x = new WarmExtents();
        Check.makeFast(x, 1);
        x.write(1, 0, 1);
        x.write(1, 1, 1);
        x.pin(1, 1);
        x.tell(0, 1);
        x.ask(1);
        Check.due("not begun", x.plan(), 2);
        x.day(1);
        Check.due("begun, though it is warm and pinned fast", x.plan(), 0);
        Check.due("value(2)", x.value(2), Check.MIN);
        Check.due("may(1, true)", x.may(1, true), false);
    }

    private static void restOnFast() {
        Check.sentence("one whose REST is above EPOCH is in it just if it is FAST");
        WarmExtents x = new WarmExtents();
        Check.makeFast(x, 0);
        x.pin(0, 2);
        Check.due("rest", x.of(0, 3), 3);
        for (int epoch = 0; epoch <= 2; epoch++) {
            Check.due("may be out in epoch " + epoch, x.may(0, false), false);
            Check.due("in it", x.plan(), 1);
            x.day(4);
        }
        Check.due("epoch", x.is(2), 3);
        Check.due("may be out, rest is not above epoch", x.may(0, false), true);
        Check.due("out", x.plan(), 0);
    }

    private static void restOnSlow() {
        Check.sentence("one whose REST is above EPOCH is in it just if it is FAST (if it has no MOVE);");
        WarmExtents x = new WarmExtents();
        Check.makeFast(x, 0);
        x.ask(0);
        x.day(1);
        Check.due("slow", x.where(0), 0);
        x.pin(0, 1);
        for (int epoch = 0; epoch <= 2; epoch++) {
            Check.due("may be in in epoch " + epoch, x.may(0, true), false);
            Check.due("not in it", x.plan(), 0);
            x.day(epoch == 0 ? 2 : 4);
        }
        Check.due("epoch", x.is(2), 3);
        Check.due("a move at the end of epoch 2", x.move(-1, 0), 0);
        Check.due("in it", x.plan(), 1);
    }

    private static void restWithAMove() {
        Check.sentence("is in it just if it is FAST (if it has no MOVE);");
        WarmExtents x = new WarmExtents();
        Check.makeFast(x, 1);
        x.write(1, 0, 1);
        x.write(1, 1, 1);
        x.tell(0, 1);
        x.ask(1);
        Check.due("a move that isn't begun is regarded as dropped", x.may(1, false), false);
        x.day(1);
        Check.due("rest is above epoch", x.of(1, 3), 3);
        Check.due("but it has a move", x.may(1, false), true);
        x.drop(1);
        Check.due("now it hasn't", x.may(1, false), false);
    }

    private static void seenTwoBits() {
        Check.sentence("is in it only if SEEN has 2 bits or more");
        WarmExtents x = new WarmExtents();
        x.tell(0, 0);
        Check.due("seen 0", x.may(4, true), false);
        Check.warm(x, 4, 20);
        Check.due("seen 1", x.may(4, true), false);
        x.day(4);
        Check.due("seen 2: one bit", x.may(4, true), false);
        x.day(8);
        x.day(8);
        x.day(4);
        Check.due("seen 64", x.of(4, 0), 64);
        x.read(4, 0);
        Check.due("seen 65: two bits", x.may(4, true), true);
        x.day(4);
        Check.due("seen 130", x.may(4, true), true);
        x.day(4);
        Check.due("seen 4: the other is lost", x.may(4, true), false);
    }

    private static void seenOfFastOnes() {
        Check.sentence("one that is SLOW, without a MOVE, PINNED not FAST, is in it only if SEEN has 2 bits or more");
        WarmExtents x = new WarmExtents();
        Check.makeFast(x, 4);
        x.day(8);
        x.day(3);
        Check.due("it rests no more", x.may(4, false), true);
        Check.due("seen", x.of(4, 0), 0);
        Check.due("a fast one may be in with no bit", x.may(4, true), true);
        Check.due("value(16)", x.value(16), 0);
    }

    private static void pinnedNotFast() {
        Check.sentence("one that is SLOW, without a MOVE, PINNED not FAST,");
        WarmExtents x = new WarmExtents();
        Check.due("not pinned", x.may(0, true), false);
        x.pin(0, 2);
        Check.due("pinned slow", x.may(0, true), false);
        x.pin(0, 1);
        Check.due("pinned fast", x.may(0, true), true);
        Check.due("value(1)", x.value(1), 100000 - 4);
    }

    private static void streamedAsOftenAsPlain() {
        Check.sentence("and STREAMED is not above PLAIN;");
        WarmExtents x = Check.known(new int[] {3}, new int[] {1});
        Check.due("plain 1, streamed 0", x.may(3, true), true);
        x.read(3, 0);
        x.read(3, 0);
        x.scan(2, 3);
        Check.due("plain", x.of(3, 1), 3);
        Check.due("streamed", x.of(3, 2), 4);
        Check.due("above", x.may(3, true), false);
        x.read(3, 0);
        Check.due("plain", x.of(3, 1), 4);
        Check.due("as often", x.may(3, true), true);
        x.day(4);
        Check.due("both 0", x.may(3, true), true);
        WarmExtents y = new WarmExtents();
        Check.makeFast(y, 3);
        y.day(8);
        y.day(3);
        y.scan(2, 3);
        Check.due("above", y.of(3, 2) - y.of(3, 1), 4);
        Check.due("but fast", y.may(3, true), true);
    }

    private static void sizesWithinBudget() {
        Check.sentence("together, is not above BUDGET: SIZES of SLOW ones in it,");
        WarmExtents x = Check.known(new int[] {1, 2}, new int[] {2, 2});
        x.tell(1, 5);
        Check.due("five of five", x.needs(6), 5);
        Check.due("both", x.plan(), 6);
        x.tell(1, 4);
        Check.due("five of four", x.needs(6), -1);
        Check.due("value", x.value(6), Check.MIN);
        x.tell(1, 3);
        Check.due("three of three", x.needs(4), 3);
        x.tell(1, 2);
        Check.due("three of two", x.needs(4), -1);
        Check.due("just the smaller one", x.plan(), 2);
    }

    private static void dirtyOnesWithinBudget() {
        Check.sentence("is not above BUDGET: SIZES of SLOW ones in it, DIRTY BLOCKS of FAST ones not in it.");
        WarmExtents x = new WarmExtents();
        Check.makeFast(x, 3);
        x.day(8);
        x.day(3);
        x.write(3, 0, 1);
        x.write(3, 1, 1);
        x.write(3, 3, 1);
        x.pin(9, 1);
        x.pin(3, 2);
        x.tell(1, 5);
        Check.due("three dirty ones and two blocks", x.needs(512), 5);
        Check.due("plan", x.plan(), 512);
        x.tell(1, 4);
        Check.due("needs(512)", x.needs(512), -1);
        Check.due("three dirty ones", x.needs(0), 3);
        x.tell(1, 3);
        Check.due("needs(0)", x.needs(0), 3);
        x.tell(1, 2);
        Check.due("needs(0)", x.needs(0), -1);
        Check.due("it stays", x.plan(), 8 + 512);
        Check.due("a fast one in it needs nothing", x.needs(8), 0);
    }

    private static void noBudget() {
        Check.sentence("what is to be COPIED of those without a MOVE, together, is not above BUDGET:");
        WarmExtents x = new WarmExtents();
        Check.makeFast(x, 4);
        x.pin(0, 1);
        x.tell(1, 0);
        Check.due("nothing can come", x.plan(), 16);
        x.day(8);
        x.day(3);
        Check.due("what isn't dirty can go", x.needs(0), 0);
        x.write(4, 0, 1);
        Check.due("what is dirty can't", x.needs(0), -1);
        x.tell(1, 1);
        Check.due("with one it can", x.needs(0), 1);
    }

    private static void movesOutsideTheBudget() {
        Check.sentence("what is to be COPIED of those without a MOVE,");
        WarmExtents x = new WarmExtents();
        x.tell(1, 0);
        x.ask(7);
        x.day(1);
        Check.due("one that is begun needs nothing of it", x.needs(128), 0);
        Check.due("and costs no worth", x.value(128), 0);
    }

    private static void quarterOfHeat() {
        Check.sentence("of those that are FAST a quarter of their HEAT (rounded down) besides;");
        WarmExtents x = new WarmExtents();
        Check.makeFast(x, 0);
        x.write(0, 0, 1);
        Check.due("12 and 3", x.value(1), 15);
        x.day(3);
        Check.due("6 and 1", x.value(1), 7);
        x.day(4);
        Check.due("3 and 0", x.value(1), 3);
        x.write(0, 0, 1);
        Check.due("15 and 3", x.value(1), 18);
        WarmExtents y = Check.known(new int[] {0}, new int[] {1});
        Check.due("12, for it is slow, less 4", y.value(1), 8);
    }

    private static void pinnedWorth() {
        Check.sentence("100000 of each in it PINNED FAST, less 100000 of each in it PINNED SLOW;");
        WarmExtents x = Check.known(new int[] {0, 4}, new int[] {1, 1});
        x.tell(2, 0);
        Check.due("not pinned", x.value(17), 24);
        x.pin(0, 1);
        Check.due("one fast", x.value(17), 100024);
        x.pin(4, 1);
        Check.due("two fast", x.value(17), 200024);
        x.pin(0, 2);
        Check.due("one of each", x.value(17), 24);
        Check.due("the slow one isn't in it", x.value(16), 100012);
        x.pin(4, 2);
        Check.due("two slow", x.value(17), -199976);
        Check.due("none in it", x.value(0), 0);
    }

    private static void priceOfCopies() {
        Check.sentence("less PRICE times what is to be COPIED.");
        WarmExtents x = Check.known(new int[] {1}, new int[] {3});
        x.tell(2, 0);
        Check.due("for nothing", x.value(2), 28);
        x.tell(2, 40);
        Check.due("two at 40", x.value(2), 28 - 80);
        Check.due("so none", x.plan(), 0);
        WarmExtents y = new WarmExtents();
        Check.makeFast(y, 1);
        y.day(8);
        y.day(3);
        y.write(1, 0, 1);
        y.tell(2, 40);
        Check.due("a dirty one that goes home", y.value(0), -40);
        Check.due("it stays", y.value(2), 15);
    }

    private static void orderOfNewMoves() {
        Check.sentence("New MOVES: to SLOW those FAST, not in it, without a MOVE, by numbers; then to FAST those SLOW, in it, "
                + "without a MOVE, by HEATS, the greatest first, of like ones the lowest.");
        WarmExtents x = new WarmExtents();
        x.tell(0, 6);
        x.ask(5);
        x.ask(4);
        x.day(8);
        x.day(7);
        for (int e : new int[] {0, 1, 8}) {
            x.pin(e, 1);
        }
        x.write(8, 0, 1);
        x.ask(9);
        x.tell(0, 1);
        Check.due("9 isn't begun: five", x.next(-1), 5);
        x.day(1);
        Check.due("9 is begun", x.where(9) + x.move(0, 2), 1);
        Check.due("five behind it", x.move(-1, 0), 6);
        int[] order = {9, 4, 5, 8, 0, 1};
        for (int i = 0; i < 6; i++) {
            Check.due("move(" + i + ", 0)", x.move(i, 0), order[i]);
            Check.due("move(" + i + ", 1)", x.move(i, 1), i == 1 || i == 2 ? 0 : 1);
        }
        Check.due("written down", x.book(x.book(-1, 0) - 1, 3), 5);
        Check.due("the set", x.book(x.book(-1, 0) - 1, 2), 1 + 2 + 256 + 512);
    }

    private static void noNewMoves() {
        Check.sentence("New MOVES: to SLOW those FAST, not in it, without a MOVE, by numbers;");
        WarmExtents x = new WarmExtents();
        Check.due("none", x.next(-1), 0);
        Check.due("next(0)", x.next(0), -2);
        Check.makeFast(x, 0);
        Check.due("fast and in it", x.next(-1), 0);
        x.day(3);
        Check.due("none", x.move(-1, 0), 0);
        Check.due("written down", x.book(x.book(-1, 0) - 1, 3), 0);
        Check.due("the set", x.book(x.book(-1, 0) - 1, 2), 1);
    }

    private static void leastThreshold() {
        Check.sentence("THRESHOLD of an EXTENT: the least HEAT (0 .. 9999) with which it would be in THE SET,");
        WarmExtents x = new WarmExtents();
        x.ask(3);
        x.day(1);
        Check.due("a move is begun: 0", x.threshold(3), 0);
        WarmExtents y = Check.known(new int[] {0}, new int[] {1});
        Check.due("worth more than none: 5", y.threshold(0), 5);
        y.tell(2, 0);
        Check.due("1, as 0 is worth as much as none", y.threshold(0), 1);
        y.pin(0, 1);
        Check.due("pinned fast: 0", y.threshold(0), 0);
        y.pin(0, 2);
        Check.due("pinned slow: none", y.threshold(0), -1);
    }

    /** 4 and 8 are known, and that one is as hot as can be; there is budget for one of them. */
    private static WarmExtents greatestHeatOf(int extent) {
        WarmExtents x = Check.known(new int[] {4, 8}, new int[] {1, 1});
        x.tell(1, 1);
        Check.read(x, "loop 9{loop 9{loop 9{write " + extent + ",0,1;}}}");
        x.played(0);
        x.played(0);
        x.played(0);
        return x;
    }

    private static void greatestThreshold() {
        Check.sentence("the least HEAT (0 .. 9999) with which it would be in THE SET, were THE PLAN made now,");
        WarmExtents x = greatestHeatOf(8);
        Check.due("heat(8)", x.heat(8), 9999);
        Check.due("as hot, and of a lower number", x.threshold(4), 9999);
        Check.due("displaced(4)", x.displaced(4), 256);
        WarmExtents y = greatestHeatOf(4);
        Check.due("heat(4)", y.heat(4), 9999);
        Check.due("it would have to be hotter than 9999", y.threshold(8), -1);
        Check.due("displaced(8)", y.displaced(8), -1);
    }

    private static void heatThatIsThere() {
        Check.sentence("with which it would be in THE SET, were THE PLAN made now, all else as it is.");
        WarmExtents x = Check.known(new int[] {4, 8}, new int[] {1, 3});
        x.tell(1, 1);
        Check.due("it is hotter than needed", x.threshold(8), 13);
        Check.due("in it now", x.plan(), 256);
        Check.due("colder than needed", x.threshold(4), 28);
        Check.due("heat(8) as it was", x.heat(8), 28);
        Check.due("seen once: none", x.threshold(0), -1);
        x.read(0, 0);
        Check.due("seen in this epoch alone: none", x.threshold(0), -1);
    }

    private static void displacedOnes() {
        Check.sentence("DISPLACED by it: the EXTENTS that are in THE SET, were THE PLAN made now, but not, had it that HEAT.");
        WarmExtents x = Check.known(new int[] {3, 4, 8}, new int[] {1, 3, 4});
        x.tell(1, 4);
        Check.due("plan", x.plan(), 16 + 256);
        Check.due("displaced(3): both", x.displaced(3), 16 + 256);
        Check.due("displaced(4): none, it is in it", x.displaced(4), 0);
        Check.due("displaced(0): no threshold", x.displaced(0), -1);
        x.tell(1, 12);
        Check.due("there is room for all", x.displaced(3), 0);
    }
}

/** Promises 13 and 30 to 38: what the plan is, and what it would be. */
public final class PlanTest {
    public static void main(String[] args) {
        nothing();
        seenTwice();
        streamsAreNotWanted();
        likeWorth();
        holdsOn();
        dirtyOnesBind();
        pinsWeigh();
        movesBegunBind();
        movesNotBegunDont();
        dropsBehindBegunOnes();
        restBinds();
        seenOften();
        bindsNoMore();
        orderOfMoves();
        warmestFirst();
        thresholds();
        thresholdOfAFastOne();
        thresholdsAtTheEdge();
        budgets();
        edges();
        Check.end("PlanTest");
    }

    private static void nothing() {
        WarmExtents x = new WarmExtents();
        Check.due(30, "plan", x.plan(), 0);
        Check.due(31, "worth(0)", x.worth(0), 0);
        Check.due(32, "value(0)", x.value(0), 0);
        Check.due(33, "needs(0)", x.needs(0), 0);
        Check.due(34, "threshold(0)", x.threshold(0), -1);
        Check.due(35, "displaced(0)", x.displaced(0), -1);
        Check.due(36, "may(0, true)", x.may(0, true), false);
        Check.due(36, "may(0, false)", x.may(0, false), true);
        Check.due(37, "next(-1)", x.next(-1), 0);
        Check.due(38, "enough", x.enough(), 0);
        x.day(4);
        Check.due(50, "planned nothing", x.book(0, 1), 3);
        Check.due(50, "the set", x.book(0, 2), 0);
        Check.due(50, "new moves", x.book(0, 3), 0);
    }

    private static void seenTwice() {
        WarmExtents x = new WarmExtents();
        Check.warm(x, 0, 40);
        Check.due(26, "seen", x.of(0, 0), 1);
        Check.due(30, "seen once", x.plan(), 0);
        Check.due(32, "not allowed", x.value(1), Check.MIN);
        Check.due(33, "not allowed", x.needs(1), -1);
        x.day(4);
        Check.due(26, "seen", x.of(0, 0), 2);
        Check.due(30, "still once", x.plan(), 0);
        x.read(0, 0);
        Check.due(26, "seen", x.of(0, 0), 3);
        Check.due(30, "seen twice", x.plan(), 1);
        Check.due(31, "worth", x.worth(6), 160 + 8 - 4);
        Check.due(32, "value", x.value(1), 164);
        Check.due(33, "needs", x.needs(1), 1);
        Check.due(36, "may be in", x.may(0, true), true);
        Check.due(36, "may be out", x.may(0, false), true);
    }

    private static void streamsAreNotWanted() {
        WarmExtents x = Check.known(new int[] {3}, new int[] {1});
        Check.due(30, "plain 1", x.plan(), 0);
        Check.warm(x, 3, 3);
        Check.due(30, "plain 4, streamed 0", x.plan(), 8);
        // a stream that comes from 2: its four blocks are streamed in 3
        x.scan(2, 3);
        Check.due(26, "plain", x.of(3, 1), 4);
        Check.due(26, "streamed", x.of(3, 2), 4);
        Check.due(30, "as often", x.plan(), 8);
        x.scan(2, 3);
        Check.due(26, "streamed", x.of(3, 2), 8);
        Check.due(30, "streamed above plain", x.plan() & 8, 0);
        Check.due(36, "may not", x.may(3, true), false);
        x.pin(3, 2);
        Check.due(36, "nor pinned slow", x.may(3, true), false);
        x.pin(3, 1);
        Check.due(36, "but pinned fast", x.may(3, true), true);
        Check.due(30, "pinned fast", x.plan() & 8, 8);
    }

    private static void likeWorth() {
        WarmExtents x = Check.known(new int[] {4, 8}, new int[] {2, 2});
        x.tell(1, 1);
        Check.due(25, "like heats", x.heat(4) - x.heat(8), 0);
        Check.due(30, "the lowest number", x.plan(), 16);
        x.tell(2, 20);
        // each is worth 20 - 20 = 0 then
        Check.due(31, "worth", x.worth(1), 0);
        Check.due(30, "none is the lowest", x.plan(), 0);
        x.tell(2, 19);
        Check.due(31, "worth", x.worth(1), 1);
        Check.due(30, "one is worth more", x.plan(), 16);
    }

    private static void holdsOn() {
        WarmExtents x = Check.known(new int[] {0, 1, 2, 3}, new int[] {1, 2, 3, 4});
        x.tell(2, 0);
        for (int e : new int[] {0, 1, 2}) {
            x.ask(e);
        }
        x.tell(0, 6);
        x.day(2);
        Check.due(19, "fast", x.where(0) + x.where(1) + x.where(2), 3);
        // heats 12, 20, 28, and a quarter besides: 15, 25, 35
        Check.due(31, "worth", x.worth(0), 15 + 25 + 35);
        Check.due(33, "needs", x.needs(7), 0);
        Check.due(32, "value", x.value(7), 75);
        Check.due(32, "they rest", x.value(6), Check.MIN);
    }

    private static void dirtyOnesBind() {
        WarmExtents x = new WarmExtents();
        Check.makeFast(x, 2);
        x.day(7);
        x.day(4);
        Check.due(18, "epoch", x.is(2), 3);
        Check.due(30, "rested, cold: none is worth more", x.plan(), 0);
        x.write(2, 0, 9);
        x.write(2, 2, 9);
        Check.due(33, "needs(0): dirty ones go home", x.needs(0), 2);
        Check.due(32, "value(0)", x.value(0), -8);
        Check.due(33, "needs(4)", x.needs(4), 0);
        // 24 and a quarter of it
        Check.due(32, "value(4)", x.value(4), 30);
        x.tell(1, 1);
        Check.due(36, "no budget to be without it", x.may(2, false), false);
        x.tell(1, 2);
        Check.due(36, "enough for it", x.may(2, false), true);
        Check.due(37, "it stays", x.next(-1), 0);
        x.pin(2, 2);
        Check.due(37, "it goes", x.next(0), 2);
        Check.due(30, "plan", x.plan(), 0);
        Check.due(31, "worth(1)", x.worth(1), 30 - 100000);
        Check.due(31, "worth(2)", x.worth(2), -8);
        Check.due(38, "enough", x.enough(), 2);
        Check.due(34, "threshold", x.threshold(2), -1);
        Check.due(35, "displaced", x.displaced(2), -1);
    }

    private static void pinsWeigh() {
        WarmExtents x = new WarmExtents();
        x.pin(0, 1);
        x.pin(9, 1);
        Check.due(31, "worth", x.worth(12), 200000 - 3 * 4);
        Check.due(30, "plan", x.plan(), 513);
        Check.due(31, "worth(2)", x.worth(2), 100000 - 4);
        Check.due(31, "worth(0)", x.worth(0), 0);
        Check.due(38, "enough", x.enough(), 3);
        WarmExtents y = Check.known(new int[] {4}, new int[] {9});
        Check.due(30, "known", y.plan(), 16);
        y.pin(4, 2);
        Check.due(30, "pinned slow", y.plan(), 0);
        Check.due(32, "but allowed", y.value(16), 4 + 72 - 4 - 100000);
    }

    private static void movesBegunBind() {
        WarmExtents x = new WarmExtents();
        x.ask(3);
        Check.due(30, "not begun", x.plan(), 0);
        x.day(1);
        Check.due(28, "begun", x.move(0, 2), 1);
        Check.due(30, "in it", x.plan(), 8);
        Check.due(31, "worth", x.worth(0), 0);
        Check.due(33, "nothing of it counts", x.needs(8), 0);
        Check.due(36, "may not be out", x.may(3, false), false);
        Check.due(37, "no new move", x.next(-1), 0);
        Check.due(34, "in it with any heat", x.threshold(3), 0);
        Check.due(35, "displaced", x.displaced(3), 0);
        x.pin(3, 2);
        Check.due(30, "in it all the same", x.plan(), 8);
        WarmExtents y = new WarmExtents();
        Check.makeFast(y, 3);
        y.write(3, 0, 1);
        y.write(3, 1, 1);
        y.write(3, 2, 1);
        y.ask(3);
        y.tell(0, 1);
        Check.due(30, "not begun", y.plan(), 8);
        y.day(1);
        Check.due(28, "begun", y.move(0, 2), 1);
        Check.due(26, "though it rests", y.of(3, 3), 3);
        Check.due(30, "not in it", y.plan(), 0);
        Check.due(36, "may not be in", y.may(3, true), false);
        Check.due(33, "its dirty ones don't count", y.needs(0), 0);
        Check.due(34, "no heat does it", y.threshold(3), -1);
    }

    private static void movesNotBegunDont() {
        WarmExtents x = new WarmExtents();
        x.ask(3);
        x.ask(1);
        x.tell(0, 0);
        Check.due(30, "regarded as dropped", x.plan(), 0);
        Check.due(36, "may not be in", x.may(3, true), false);
        Check.due(36, "may be out", x.may(3, false), true);
        Check.due(28, "they are there yet", x.move(-1, 0), 2);
        x.day(4);
        Check.due(28, "dropped", x.move(-1, 0), 0);
        Check.due(50, "in order", x.book(0, 2), 3);
        Check.due(50, "in order", x.book(1, 2), 1);
        Check.due(50, "dropped ahead of planned", x.book(2, 1), 3);
        x.ask(1);
        x.pin(1, 1);
        Check.due(37, "a new move of it all the same", x.next(0), 1);
        x.day(4);
        Check.due(28, "to fast", x.move(0, 1), 1);
        Check.due(51, "dropped and planned anew", x.ledger(2), 3);
    }

    private static void dropsBehindBegunOnes() {
        WarmExtents x = new WarmExtents();
        x.day(1);
        x.tell(0, 1);
        x.ask(0);
        x.ask(3);
        x.ask(2);
        x.ask(1);
        x.day(1);
        x.ask(0);
        x.day(2);
        Check.due(28, "moves", x.move(-1, 0), 1);
        Check.due(28, "the one that is begun", x.move(0, 0), 3);
        Check.due(28, "its blocks", x.move(0, 3), 12);
        int last = x.book(-1, 0) - 1;
        int[] dropped = {2, 1, 0};
        for (int i = 0; i < 3; i++) {
            Check.due(50, "dropped", x.book(last - 3 + i, 1), 2);
            Check.due(50, "in order", x.book(last - 3 + i, 2), dropped[i]);
            Check.due(50, "to fast or to slow", x.book(last - 3 + i, 3), i < 2 ? 1 : 0);
        }
        Check.due(50, "the set: 0 rests, 3 is begun", x.book(last, 2), 9);
        x.pin(4, 1);
        x.ask(6);
        Check.due(37, "behind it", x.next(0), 4);
        x.day(4);
        Check.due(19, "3 was whole", x.where(3), 1);
        Check.due(28, "moves", x.move(-1, 0), 2);
        Check.due(28, "6 is begun", x.move(0, 0), 6);
        Check.due(28, "4 is behind it", x.move(1, 0), 4);
    }

    private static void restBinds() {
        WarmExtents x = new WarmExtents();
        x.day(3);
        Check.makeFast(x, 0);
        Check.due(26, "rest", x.of(0, 3), 3);
        Check.due(18, "epoch", x.is(2), 1);
        Check.due(50, "in the set at the end of its tick", x.book(2, 2), 1);
        x.day(4);
        Check.due(36, "rests", x.may(0, false), false);
        x.day(4);
        Check.due(18, "epoch", x.is(2), 3);
        Check.due(36, "rests no more", x.may(0, false), true);
        Check.due(30, "no worth, so none", x.plan(), 0);
        Check.due(34, "threshold", x.threshold(0), 1);
        x.ask(0);
        x.day(1);
        Check.due(19, "slow", x.where(0), 0);
        x.pin(0, 1);
        Check.due(36, "rests on slow", x.may(0, true), false);
        Check.due(34, "threshold", x.threshold(0), -1);
        x.day(8);
        Check.due(36, "still", x.may(0, true), false);
        x.day(4);
        Check.due(18, "epoch", x.is(2), 6);
        Check.due(36, "no more", x.may(0, true), true);
    }

    private static void warmestFirst() {
        WarmExtents x = new WarmExtents();
        for (int e : new int[] {1, 2, 4}) {
            x.pin(e, 1);
        }
        Check.warm(x, 1, 1);
        Check.warm(x, 2, 2);
        Check.warm(x, 4, 3);
        Check.due(37, "the warmest", x.next(0), 4);
        Check.due(37, "the next", x.next(1), 2);
        Check.due(37, "the coldest", x.next(2), 1);
        Check.due(37, "no more", x.next(3), -2);
        WarmExtents y = new WarmExtents();
        Check.makeFast(y, 0);
        y.day(8);
        y.day(3);
        Check.due(37, "cold, it goes", y.next(0), 0);
    }

    private static void seenOften() {
        WarmExtents x = new WarmExtents();
        for (int epoch = 1; epoch <= 8; epoch++) {
            x.read(6, 0);
            Check.due(26, "seen", x.of(6, 0), (1 << epoch) - 1);
            Check.due(36, "may be in", x.may(6, true), epoch >= 2);
            x.day(4);
        }
        Check.due(26, "seen", x.of(6, 0), 254);
    }

    private static void bindsNoMore() {
        WarmExtents x = new WarmExtents();
        x.ask(0);
        x.ask(3);
        x.day(1);
        Check.due(30, "3 is begun", x.plan(), 9);
        x.drop(3);
        Check.due(30, "3 is dropped", x.plan(), 1);
        Check.due(36, "3 may be out", x.may(3, false), true);
        x.crash();
        x.undo();
        x.undo();
        Check.due(30, "3 is begun again", x.plan(), 9);
    }

    private static void orderOfMoves() {
        WarmExtents x = new WarmExtents();
        x.tell(0, 6);
        x.ask(5);
        x.ask(4);
        x.day(8);
        x.day(4);
        Check.due(18, "epoch", x.is(2), 3);
        for (int e : new int[] {0, 1, 8, 9}) {
            x.pin(e, 1);
        }
        Check.warm(x, 8, 2);
        Check.warm(x, 1, 3);
        Check.warm(x, 9, 2);
        Check.due(30, "plan", x.plan(), 1 + 2 + 256 + 512);
        Check.due(37, "how many", x.next(-1), 6);
        int[] order = {4, 5, 1, 8, 9, 0};
        for (int i = 0; i < order.length; i++) {
            Check.due(37, "next(" + i + ")", x.next(i), order[i]);
        }
        Check.due(37, "next(6)", x.next(6), -2);
        Check.due(37, "next(-2)", x.next(-2), -2);
        x.tell(0, 0);
        x.day(4);
        for (int i = 0; i < order.length; i++) {
            Check.due(28, "move(" + i + ", 0)", x.move(i, 0), order[i]);
            Check.due(28, "move(" + i + ", 1)", x.move(i, 1), i < 2 ? 0 : 1);
        }
        int last = x.book(-1, 0) - 1;
        Check.due(50, "planned", x.book(last, 2), 771);
        Check.due(50, "new moves", x.book(last, 3), 6);
    }

    private static void thresholds() {
        WarmExtents x = Check.known(new int[] {1, 4, 8, 9}, new int[] {3, 1, 1, 2});
        x.tell(1, 2);
        // heats 28, 12, 12, 20; at price 4: 20 for 1, 8 and 8 for 4 and 8, 12 for 9
        Check.due(30, "plan", x.plan(), 2);
        Check.due(31, "worth", x.worth(2), 20);
        Check.due(34, "threshold(1)", x.threshold(1), 24);
        Check.due(35, "displaced(1), it is in it", x.displaced(1), 0);
        // 9 is the higher number: it must be worth more than 20
        Check.due(34, "threshold(9)", x.threshold(9), 29);
        Check.due(35, "displaced(9)", x.displaced(9), 2);
        // with 8 it is worth heat - 4 + 8; the number of the two is above 2, so above 20
        Check.due(34, "threshold(4)", x.threshold(4), 17);
        Check.due(35, "displaced(4)", x.displaced(4), 2);
        Check.due(34, "threshold(0)", x.threshold(0), -1);
        Check.due(34, "threshold(10)", x.threshold(10), -1);
        Check.due(34, "threshold(-1)", x.threshold(-1), -1);
        Check.due(35, "displaced(0)", x.displaced(0), -1);
        Check.due(35, "displaced(10)", x.displaced(10), -1);
        x.tell(2, 40);
        Check.due(30, "too dear", x.plan(), 0);
        Check.due(34, "threshold(1)", x.threshold(1), 81);
        Check.due(35, "displaced(1)", x.displaced(1), 0);
        x.pin(9, 2);
        Check.due(34, "no heat is enough", x.threshold(9), -1);
        Check.due(35, "so none is displaced", x.displaced(9), -1);
    }

    private static void thresholdOfAFastOne() {
        WarmExtents x = new WarmExtents();
        Check.makeFast(x, 2);
        x.day(7);
        x.day(4);
        x.pin(0, 1);
        x.pin(7, 1);
        x.tell(1, 12);
        x.tell(2, 0);
        // 0, 7 and 2 have room together: 1 + 4 + 3
        Check.due(34, "threshold(2)", x.threshold(2), 1);
        x.pin(9, 1);
        x.pin(0, 0);
        // 7 and 9 are worth 200000 and leave 3 slots
        Check.due(30, "plan", x.plan(), 640);
        Check.due(34, "threshold(2)", x.threshold(2), 1);
        x.pin(0, 1);
        // 0, 7 and 9 leave 2 slots: 2 would have to be worth more than one of them, 100000
        Check.due(30, "plan", x.plan(), 641);
        Check.due(34, "threshold(2)", x.threshold(2), -1);
        quarterOfAFastOne();
        x.pin(0, 0);
        x.pin(7, 0);
        x.pin(9, 0);
        Check.warm(x, 2, 1);
        x.write(2, 1, 3);
        x.tell(2, 10);
        // 20 and a quarter against 10 less for the copy home
        Check.due(32, "value(4)", x.value(4), 25);
        Check.due(32, "value(0)", x.value(0), -10);
        Check.due(34, "threshold(2): it is worth more cold", x.threshold(2), 0);
    }

    /** 0 is fast, and rested; it has to be worth more than 4, for there is room for one of them. */
    private static void quarterOfAFastOne() {
        WarmExtents x = new WarmExtents();
        Check.makeFast(x, 0);
        x.day(7);
        x.read(4, 0);
        x.day(4);
        x.pin(3, 1);
        x.pin(7, 1);
        x.tell(1, 12);
        x.tell(2, 0);
        Check.warm(x, 4, 12);
        Check.due(25, "heat(4)", x.heat(4), 100);
        Check.due(30, "plan", x.plan(), 8 + 128 + 16);
        // 80 and a quarter of it are as much, and 0 is the lower number; 79 and 19 are not
        Check.due(34, "threshold(0)", x.threshold(0), 80);
        Check.due(35, "displaced(0)", x.displaced(0), 16);
    }

    private static void thresholdsAtTheEdge() {
        WarmExtents x = new WarmExtents();
        Check.makeFast(x, 0);
        x.day(7);
        x.day(4);
        x.pin(3, 1);
        x.pin(7, 1);
        x.pin(4, 1);
        x.tell(1, 12);
        // 3, 7 and 4 fill the nine slots; 0 has to be hotter than 4 by 100000
        Check.due(34, "threshold", x.threshold(0), -1);
        x.pin(4, 0);
        Check.due(34, "one slot is left for it", x.threshold(0), 1);
        WarmExtents y = Check.known(new int[] {4, 8}, new int[] {1, 1});
        y.tell(1, 1);
        Check.read(y, "loop 9{loop 9{loop 9{write 8,0,1;}}}");
        y.played(0);
        y.played(0);
        y.played(0);
        Check.due(25, "heat(8)", y.heat(8), 9999);
        Check.due(34, "like heat, a lower number", y.threshold(4), 9999);
        Check.due(35, "displaced", y.displaced(4), 256);
        WarmExtents z = Check.known(new int[] {4, 8}, new int[] {1, 1});
        z.tell(1, 1);
        Check.read(z, "loop 9{loop 9{loop 9{write 4,0,1;}}}");
        z.played(0);
        z.played(0);
        z.played(0);
        Check.due(34, "like heat, a higher number", z.threshold(8), -1);
        Check.due(34, "threshold(4)", z.threshold(4), 12);
    }

    private static void budgets() {
        WarmExtents x = Check.known(new int[] {1, 2, 4, 9}, new int[] {3, 4, 1, 5});
        // heats 28, 36, 12, 44
        Check.due(31, "worth(0)", x.worth(0), 0);
        Check.due(31, "worth(1)", x.worth(1), 8);
        Check.due(31, "worth(2)", x.worth(2), 36);
        Check.due(31, "worth(3)", x.worth(3), 44);
        Check.due(31, "worth(4)", x.worth(4), 56);
        Check.due(31, "worth(5)", x.worth(5), 64);
        Check.due(31, "worth(12)", x.worth(12), 20 + 24 + 8 + 36);
        Check.due(31, "worth(13)", x.worth(13), Check.MIN);
        Check.due(31, "worth(-1)", x.worth(-1), Check.MIN);
        Check.due(38, "enough", x.enough(), 8);
        Check.due(18, "the budget is as it was", x.is(5), 6);
        Check.due(54, "no step", x.about(1), 2 + 4 + 3 + 4 + 1 + 5 - 1);
    }

    private static void edges() {
        WarmExtents x = Check.known(new int[] {3, 7, 0, 4}, new int[] {2, 2, 2, 2});
        x.tell(1, 12);
        Check.due(33, "nine slots", x.needs(8 + 128 + 1), 9);
        Check.due(33, "ten slots", x.needs(8 + 128 + 1 + 16), -1);
        Check.due(32, "ten slots", x.value(8 + 128 + 1 + 16), Check.MIN);
        x.tell(1, 8);
        Check.due(33, "above the budget", x.needs(8 + 128 + 1), -1);
        Check.due(33, "at the budget", x.needs(8 + 128), 8);
        Check.due(32, "value(-1)", x.value(-1), Check.MIN);
        Check.due(32, "value(1024)", x.value(1024), Check.MIN);
        Check.due(32, "value(1 << 31)", x.value(1 << 31), Check.MIN);
        Check.due(33, "needs(-1)", x.needs(-1), -1);
        Check.due(33, "needs(1024)", x.needs(1024), -1);
        Check.due(33, "needs(1025)", x.needs(1025), -1);
        Check.due(36, "may(10, false)", x.may(10, false), false);
        Check.due(36, "may(-1, true)", x.may(-1, true), false);
        Check.due(36, "may(-1, false)", x.may(-1, false), false);
    }
}

/** Promises 9 to 14, 19 to 23, 26, 28, 29: pins, what is told, moves, ticks, drops and crashes. */
public final class MovesTest {
    public static void main(String[] args) {
        pins();
        told();
        asked();
        days();
        slowTick();
        noRoom();
        undoneByAWrite();
        home();
        wholeWithoutCopies();
        drops();
        crashes();
        allNine();
        scattered();
        Check.end("MovesTest");
    }

    private static void pins() {
        WarmExtents x = new WarmExtents();
        Check.due(9, "pin(2, 0), as it is", x.pin(2, 0), false);
        Check.due(9, "pin(2, 2)", x.pin(2, 2), true);
        Check.due(9, "pin(2, 2) again", x.pin(2, 2), false);
        Check.due(26, "how", x.of(2, 4), 2);
        Check.due(9, "pin(2, 1)", x.pin(2, 1), true);
        Check.due(26, "how", x.of(2, 4), 1);
        Check.due(9, "pin(2, 3)", x.pin(2, 3), false);
        Check.due(9, "pin(2, -1)", x.pin(2, -1), false);
        Check.due(9, "pin(10, 1)", x.pin(10, 1), false);
        Check.due(9, "pin(-1, 1)", x.pin(-1, 1), false);
        Check.due(54, "steps", x.about(1), 2);
        Check.due(9, "pin(2, 0)", x.pin(2, 0), true);
        Check.due(50, "lines", x.book(-1, 0), 3);
        Check.due(50, "what", x.book(2, 1), 5);
        Check.due(50, "extent", x.book(2, 2), 2);
        Check.due(50, "how", x.book(2, 3), 0);
        Check.due(50, "how", x.book(0, 3), 2);
    }

    private static void told() {
        WarmExtents x = new WarmExtents();
        int[] most = {6, 12, 40};
        for (int what = 0; what < 3; what++) {
            Check.due(10, "tell too much of " + what, x.tell(what, most[what] + 1), false);
            Check.due(10, "tell too little of " + what, x.tell(what, -1), false);
            Check.due(10, "tell most of " + what, x.tell(what, most[what]), true);
            Check.due(18, "is", x.is(4 + what), most[what]);
            Check.due(10, "tell it again of " + what, x.tell(what, most[what]), true);
            Check.due(10, "tell 0 of " + what, x.tell(what, 0), true);
            Check.due(18, "is", x.is(4 + what), 0);
        }
        Check.due(10, "tell(3, 0)", x.tell(3, 0), false);
        Check.due(10, "tell(-1, 0)", x.tell(-1, 0), false);
        Check.due(54, "steps, those that changed nothing too", x.about(1), 9);
        Check.due(50, "nothing is written down", x.book(-1, 0), 0);
    }

    private static void asked() {
        WarmExtents x = new WarmExtents();
        Check.due(11, "ask(3)", x.ask(3), 1);
        Check.due(11, "ask(3)", x.ask(3), -1);
        Check.due(11, "ask(0)", x.ask(0), 2);
        Check.due(11, "ask(10)", x.ask(10), -1);
        Check.due(11, "ask(-1)", x.ask(-1), -1);
        Check.due(54, "steps", x.about(1), 2);
        Check.due(28, "how many, whatever is asked", x.move(-1, 9), 2);
        Check.due(28, "extent", x.move(1, 0), 0);
        Check.due(28, "to fast", x.move(1, 1), 1);
        Check.due(28, "begun", x.move(1, 2), 0);
        Check.due(28, "blocks", x.move(0, 3), 15);
        Check.due(28, "blocks", x.move(1, 3), 1);
        Check.due(28, "move(1, 4)", x.move(1, 4), -2);
        Check.due(28, "move(1, -1)", x.move(1, -1), -2);
        Check.due(28, "move(2, 0)", x.move(2, 0), -2);
        Check.due(28, "move(3, 0)", x.move(3, 0), -2);
        Check.due(28, "move(-2, 0)", x.move(-2, 0), -2);
        Check.due(29, "moveOf(0)", x.moveOf(0), 1);
        Check.due(29, "moveOf(3)", x.moveOf(3), 0);
        Check.due(29, "moveOf(1)", x.moveOf(1), -1);
        Check.due(29, "moveOf(10)", x.moveOf(10), -1);
        Check.due(29, "moveOf(-1)", x.moveOf(-1), -1);
        Check.due(50, "asking is not written down", x.book(-1, 0), 0);
        for (int e : new int[] {1, 2, 4, 5, 6, 7, 8, 9}) {
            x.ask(e);
        }
        Check.due(28, "a move of each extent", x.move(-1, 0), 10);
        Check.due(28, "the last", x.move(9, 0), 9);
    }

    private static void days() {
        WarmExtents x = new WarmExtents();
        Check.due(13, "day(0)", x.day(0), -1);
        Check.due(13, "day(9)", x.day(9), -1);
        Check.due(13, "day(-1)", x.day(-1), -1);
        x.read(5, 0);
        x.read(5, 0);
        Check.due(13, "day(8)", x.day(8), 8);
        Check.due(18, "epoch", x.is(2), 2);
        Check.due(25, "heat", x.heat(5), 4);
        Check.due(26, "seen", x.of(5, 0), 4);
        Check.due(26, "saved heat", x.of(5, 6), 4);
        Check.due(26, "saved seen", x.of(5, 7), 4);
        Check.due(54, "steps", x.about(1), 3);
        Check.due(13, "day(3)", x.day(3), 11);
        Check.due(18, "epoch", x.is(2), 2);
        Check.due(13, "day(1)", x.day(1), 12);
        Check.due(18, "epoch", x.is(2), 3);
        x.day(8);
        x.day(8);
        Check.due(26, "seen: 8 bits", x.of(5, 0), 128);
        x.day(4);
        Check.due(26, "seen: 8 bits stay", x.of(5, 0), 0);
    }

    private static void slowTick() {
        WarmExtents x = new WarmExtents();
        x.ask(2);
        x.ask(1);
        x.tell(0, 0);
        x.day(1);
        Check.due(28, "no pace: none is begun", x.move(0, 2), 0);
        x.tell(0, 3);
        x.day(1);
        Check.due(13, "no copy left for the second", x.move(0, 2), 0);
        Check.due(28, "the first is gone", x.move(0, 0), 1);
        Check.due(19, "where(2)", x.where(2), 1);
        Check.due(26, "rest", x.of(2, 3), 3);
        Check.due(26, "switched", x.of(2, 8), 1);
        Check.due(18, "copies", x.is(10), 3);
        Check.due(18, "cost", x.is(3), 27);
        Check.due(18, "switches", x.is(11), 1);
        x.tell(0, 1);
        x.day(1);
        Check.due(28, "begun", x.move(0, 2), 1);
        Check.due(28, "blocks to copy yet", x.move(0, 3), 2);
        Check.due(22, "holder of a slot of a move", x.holder(4), 2);
        Check.due(20, "slot of a slow extent", x.slot(1, 1), -1);
        Check.due(23, "free", x.free(3), 5);
        x.tell(0, 0);
        x.day(1);
        Check.due(19, "no copy, not whole", x.where(1), 0);
        Check.due(50, "lines", x.book(-1, 0), 4);
        Check.due(50, "begun", x.book(0, 1), 0);
        Check.due(50, "its extent", x.book(0, 2), 2);
        Check.due(50, "to fast", x.book(0, 3), 1);
        Check.due(50, "switched", x.book(1, 1), 1);
        Check.due(50, "its clock", x.book(1, 0), 2);
        Check.due(50, "begun, the second", x.book(2, 2), 1);
        Check.due(50, "planned", x.book(3, 1), 3);
        // 1 is begun to fast, 2 rests on fast
        Check.due(50, "the set", x.book(3, 2), 6);
        Check.due(50, "new moves", x.book(3, 3), 0);
    }

    private static void noRoom() {
        WarmExtents x = new WarmExtents();
        x.tell(0, 6);
        x.ask(3);
        x.ask(7);
        x.day(2);
        Check.due(22, "the lowest slot", x.holder(0), 6);
        Check.due(19, "where(7)", x.where(7), 1);
        Check.due(23, "one slot is left", x.free(0), 8);
        x.ask(1);
        x.ask(0);
        x.day(1);
        Check.due(13, "too large, left as it is", x.move(0, 0), 1);
        Check.due(13, "not begun", x.move(0, 2), 0);
        Check.due(13, "gone on behind it", x.where(0), 1);
        Check.due(23, "none is free", x.free(0), -1);
        x.ask(7);
        x.undo();
        x.ask(7);
        Check.due(28, "to slow", x.move(1, 1), 0);
        Check.due(28, "nothing to copy", x.move(1, 3), 0);
        x.day(1);
        Check.due(19, "where(7)", x.where(7), 0);
        Check.due(26, "its rest", x.of(7, 3), 3);
        Check.due(23, "its slots are free", x.free(0), 4);
        // at the end of this tick the plan was made: the move of 1 is dropped
        Check.due(28, "moves", x.move(-1, 0), 0);
        Check.due(51, "dropped", x.ledger(2), 1);
    }

    private static void undoneByAWrite() {
        WarmExtents x = new WarmExtents();
        x.ask(2);
        x.tell(0, 2);
        x.day(1);
        Check.due(28, "to copy", x.move(0, 3), 4);
        x.write(2, 0, 11);
        x.write(2, 2, 12);
        Check.due(7, "copied no more", x.move(0, 3), 5);
        Check.due(21, "on fast not yet", x.on(1, 0), 3);
        x.read(2, 1);
        Check.due(6, "a read undoes nothing", x.move(0, 3), 5);
        x.day(1);
        Check.due(19, "where", x.where(2), 1);
        Check.due(21, "on fast", x.on(1, 0), 11);
        Check.due(21, "on fast", x.on(1, 2), 12);
        Check.due(26, "dirty", x.of(2, 5), 0);
        Check.due(18, "copies", x.is(10), 4);
    }

    private static void home() {
        WarmExtents x = new WarmExtents();
        Check.makeFast(x, 3);
        x.write(3, 3, 31);
        x.write(3, 1, 30);
        x.ask(3);
        x.tell(0, 1);
        Check.due(28, "dirty, not begun", x.move(0, 3), 10);
        x.day(1);
        Check.due(28, "begun", x.move(0, 2), 1);
        Check.due(21, "the lowest is home", x.on(0, 7), 30);
        Check.due(21, "the next isn't", x.on(0, 9), 9);
        Check.due(26, "dirty", x.of(3, 5), 8);
        x.write(3, 1, 40);
        Check.due(28, "dirty again", x.move(0, 3), 10);
        Check.due(6, "read", x.read(3, 1), 40);
        x.day(1);
        Check.due(21, "home again", x.on(0, 7), 40);
        Check.due(19, "still fast", x.where(3), 1);
        Check.due(22, "its slots", x.holder(3), 9);
        x.day(1);
        Check.due(19, "slow", x.where(3), 0);
        Check.due(21, "home", x.on(0, 9), 31);
        Check.due(22, "no holder", x.holder(3), -1);
        Check.due(21, "on fast it lies yet", x.on(1, 3), 31);
        Check.due(6, "read", x.read(3, 3), 31);
        Check.due(26, "switched", x.of(3, 8), 2);
    }

    private static void wholeWithoutCopies() {
        WarmExtents x = new WarmExtents();
        Check.makeFast(x, 1);
        x.write(1, 0, 5);
        x.write(1, 1, 6);
        x.tell(0, 1);
        x.ask(1);
        x.day(1);
        Check.due(28, "one is to be copied", x.move(0, 3), 2);
        x.tell(0, 0);
        x.day(1);
        Check.due(19, "not whole", x.where(1), 1);
        x.drop(1);
        x.undo();
        x.crash();
        WarmExtents y = new WarmExtents();
        Check.makeFast(y, 0);
        Check.makeFast(y, 1);
        y.ask(0);
        y.tell(0, 0);
        y.day(1);
        Check.due(13, "no copy left: not even begun", y.move(0, 2), 0);
        WarmExtents z = new WarmExtents();
        Check.makeFast(z, 4);
        Check.makeFast(z, 1);
        z.write(4, 0, 1);
        z.ask(4);
        z.ask(1);
        z.tell(0, 1);
        z.day(1);
        Check.due(13, "the first is whole", z.where(4), 0);
        Check.due(13, "for the second no copy was left", z.where(1), 1);
    }

    private static void drops() {
        WarmExtents x = new WarmExtents();
        Check.due(12, "drop(1)", x.drop(1), -1);
        Check.due(12, "drop(-1)", x.drop(-1), -1);
        Check.due(12, "drop(10)", x.drop(10), -1);
        x.ask(1);
        x.ask(2);
        x.ask(3);
        x.tell(0, 3);
        x.day(1);
        Check.due(28, "2 is begun", x.move(0, 2), 1);
        Check.due(12, "drop(2)", x.drop(2), 1);
        Check.due(22, "its slots are free", x.holder(2), -1);
        Check.due(21, "but what was copied lies there", x.on(1, 2), 3);
        Check.due(12, "drop(2) again", x.drop(2), -1);
        Check.due(50, "dropped", x.book(3, 1), 2);
        Check.due(50, "extent", x.book(3, 2), 2);
        Check.due(50, "to fast", x.book(3, 3), 1);
        Check.due(12, "drop(3), not begun", x.drop(3), 0);
        Check.due(54, "steps", x.about(1), 7);
        x.write(1, 0, 8);
        x.write(1, 1, 9);
        x.ask(1);
        x.tell(0, 1);
        x.day(1);
        Check.due(12, "drop(1), to slow", x.drop(1), 0);
        Check.due(50, "to slow", x.book(x.book(-1, 0) - 1, 3), 0);
        Check.due(21, "what was copied home stays there", x.on(0, 1), 8);
        Check.due(26, "and isn't dirty", x.of(1, 5), 2);
        Check.due(19, "where", x.where(1), 1);
        Check.due(20, "it has its slots", x.slot(1, 0), 0);
    }

    private static void crashes() {
        WarmExtents x = new WarmExtents();
        Check.due(14, "crash()", x.crash(), 0);
        Check.makeFast(x, 1);
        x.day(3);
        Check.warm(x, 1, 3);
        x.scan(3, 3);
        x.write(1, 0, 44);
        x.ask(3);
        x.ask(1);
        x.ask(2);
        x.tell(0, 2);
        x.day(1);
        Check.due(28, "3 is begun", x.move(0, 2), 1);
        Check.due(14, "crash()", x.crash(), 3);
        Check.due(28, "no moves", x.move(-1, 0), 0);
        Check.due(27, "no heads", x.head(-1, 0), 0);
        Check.due(25, "heat as saved", x.heat(1), 0);
        Check.due(26, "seen as saved", x.of(1, 0), 0);
        Check.due(26, "plain", x.of(1, 1), 0);
        Check.due(26, "streamed", x.of(3, 2), 0);
        Check.due(26, "all are dirty", x.of(1, 5), 3);
        Check.due(26, "none on slow", x.of(3, 5), 0);
        Check.due(22, "slots of the move are free", x.holder(2), -1);
        Check.due(22, "those of a fast extent are not", x.holder(1), 2);
        Check.due(6, "nothing written is lost", x.read(1, 0), 44);
        Check.due(26, "rest stays", x.of(1, 3), 3);
        Check.due(26, "switched stays", x.of(1, 8), 1);
        Check.due(18, "crashes", x.is(12), 2);
        int last = x.book(-1, 0) - 1;
        Check.due(50, "crashed", x.book(last, 1), 4);
        Check.due(50, "moves", x.book(last, 2), 3);
        Check.due(50, "slots", x.book(last, 3), 4);
        Check.warm(x, 5, 2);
        x.day(3);
        Check.warm(x, 5, 1);
        Check.warm(x, 0, 1);
        x.crash();
        Check.due(25, "heat of 0 as saved", x.heat(0), 0);
        Check.due(25, "heat as saved", x.heat(5), 8);
        Check.due(26, "seen as saved", x.of(5, 0), 2);
    }

    private static void allNine() {
        WarmExtents x = new WarmExtents();
        x.tell(0, 6);
        x.ask(3);
        x.ask(6);
        x.ask(1);
        x.day(2);
        Check.due(19, "nine slots are enough for 4, 3 and 2", x.where(1), 1);
        Check.due(23, "none is free", x.free(0), -1);
        Check.due(22, "holder(8)", x.holder(8), 2);
        Check.due(18, "switches", x.is(11), 3);
    }

    private static void scattered() {
        WarmExtents x = new WarmExtents();
        Check.makeFast(x, 0);
        Check.makeFast(x, 1);
        Check.makeFast(x, 4);
        x.ask(0);
        x.day(1);
        Check.due(22, "its slot is free", x.holder(0), -1);
        Check.makeFast(x, 9);
        Check.due(20, "the lowest free slots", x.slot(9, 0), 0);
        Check.due(20, "by blocks", x.slot(9, 1), 4);
        Check.due(22, "holder(4)", x.holder(4), 22);
        x.write(9, 1, 123);
        Check.due(21, "on(1, 4)", x.on(1, 4), 123);
        Check.due(20, "slot(9, 2)", x.slot(9, 2), -1);
        Check.due(20, "slot(9, -1)", x.slot(9, -1), -1);
        Check.due(23, "free(5)", x.free(5), 5);
    }
}

/** Promises 1, 16, 17, 50 to 54: years, steps, the book, the image. */
public final class HistoryTest {
    public static void main(String[] args) {
        fresh();
        years();
        yearsEdges();
        undo();
        undoOfEach();
        undoOfAll();
        thirtySteps();
        undoLeavesTexts();
        book();
        image();
        imageKeepsSteps();
        imageKeepsTexts();
        Check.end("HistoryTest");
    }

    private static void fresh() {
        WarmExtents x = new WarmExtents();
        int[] due = {0, 409, 0, 0, 3, 6, 4, 0, 0, 0, 0, 0, 0};
        for (int i = 0; i < due.length; i++) {
            Check.due(1, "is(" + i + ")", x.is(i), due[i]);
        }
        for (int p = 0; p < 23; p++) {
            Check.due(1, "on(0, " + p + ")", x.on(0, p), p);
        }
        for (int s = 0; s < 9; s++) {
            Check.due(1, "on(1, " + s + ")", x.on(1, s), 0);
            Check.due(1, "free(" + s + ")", x.free(s), s);
        }
        for (int e = 0; e < 10; e++) {
            Check.due(1, "where(" + e + ")", x.where(e), 0);
            Check.due(1, "heat(" + e + ")", x.heat(e), 0);
            for (int what = 0; what < 9; what++) {
                Check.due(1, "of(" + e + ", " + what + ")", x.of(e, what), 0);
            }
        }
        Check.due(54, "texts", x.about(0), 0);
        Check.due(54, "steps", x.about(1), 0);
        Check.due(54, "bytes", x.about(2), 0);
        Check.due(54, "about(3)", x.about(3), -2);
        Check.due(54, "about(-1)", x.about(-1), -2);
        x.write(0, 0, 5);
        Check.read(x, "tick;");
        Check.due(53, "back to the new one", x.back(), 0);
        Check.due(53, "on", x.on(0, 0), 0);
        Check.due(53, "texts", x.about(0), 0);
        Check.due(53, "steps", x.about(1), 0);
    }

    private static void years() {
        WarmExtents x = new WarmExtents();
        // x = 2 * 2 + 409 = 413: a read of extent 1 * 4 / 10 = 0, block 0
        Check.due(16, "years(2, 1)", x.years(2, 1), 0);
        Check.due(16, "X", x.is(1), (413 * 773 + 641) % 31139);
        Check.due(16, "heat(0)", x.heat(0), 8);
        Check.due(16, "steps", x.about(1), 1);
        // x = 419: a tick, 4 doesn't divide 41
        Check.due(16, "years(5, 1)", x.years(5, 1), 1);
        Check.due(16, "no crash", x.is(12), 0);
        // x = 409: a crash, 4 divides 40
        Check.due(16, "years(0, 1)", x.years(0, 1), 1);
        Check.due(16, "a crash", x.is(12), 1);
        // x = 417: a tick
        Check.due(16, "years(4, 1)", x.years(4, 1), 2);
        // draws of seed 0 go on with 5408 (a tick) and (5408 * 773 + 641) mod 31139 = 8399: 843 isn't divided by 4
        Check.due(16, "years(0, 3)", x.years(0, 3), 4);
        Check.due(16, "X", x.is(1), (8399 * 773 + 641) % 31139);
        Check.due(16, "crashes", x.is(12), 2);
        WarmExtents y = new WarmExtents();
        yearOfEachKind();
        // x = 293 * 2 + 409 = 995: a write of extent 9 * 9 / 10 = 8, block 0, of 995
        Check.due(16, "years(293, 1)", y.years(293, 1), 0);
        Check.due(16, "written", y.on(0, 20), 995);
        Check.due(16, "heat(8)", y.heat(8), 12);
        WarmExtents z = new WarmExtents();
        // x = 415: a write of extent 4 * 1 / 10 = 0; then x = 10046: reads of extents 1004 mod 9 = 5, and 6
        Check.due(16, "years(3, 2)", z.years(3, 2), 0);
        Check.due(16, "X", z.is(1), (10046 * 773 + 641) % 31139);
        Check.due(16, "on", z.on(0, 0), 415);
        Check.due(16, "heat(0)", z.heat(0), 12);
        Check.due(16, "plain of 5", z.of(5, 1), 2);
        Check.due(16, "plain of 6", z.of(6, 1), 1);
        Check.due(16, "streamed of 6", z.of(6, 2), 2);
        Check.due(16, "accesses", z.is(7), 6);
        scanOfAYear();
    }

    /** The first draw is seed * 2 + 409, so all odd ones from 409 on are first draws. */
    private static WarmExtents firstDraw(int x) {
        WarmExtents made = new WarmExtents();
        made.years((x - 409) / 2, 1);
        return made;
    }

    private static void yearOfEachKind() {
        // extent 9 * 7 / 10 = 6; 791 mod 3 = 2
        Check.due(16, "x = 791, a read", firstDraw(791).head(0, 0), 13 + 2 + 1);
        Check.due(16, "x = 791, a read", firstDraw(791).heat(6), 8);
        // extent 9 * 9 / 10 = 8
        Check.due(16, "x = 993, a read", firstDraw(993).heat(8), 8);
        // extent 8 * 9 / 10 = 7; 985 mod 4 = 1
        Check.due(16, "x = 985, a write", firstDraw(985).on(0, 17), 985);
        // extent 8 * 3 / 10 = 2 of 10385; 10385 mod 3 = 2
        Check.due(16, "x = 10385, a write", firstDraw(10385).on(0, 5), 385);
        Check.due(16, "x = 10385, a write", firstDraw(10385).heat(2), 12);
        Check.due(16, "x = 997, a tick", firstDraw(997).is(0), 1);
        Check.due(16, "x = 997, no access", firstDraw(997).is(7), 0);
        Check.due(16, "x = 999, a tick", firstDraw(999).is(0), 1);
        Check.due(16, "x = 889, a crash", firstDraw(889).is(12), 1);
        Check.due(16, "x = 889, no tick", firstDraw(889).is(0), 0);
        Check.due(16, "x = 859, a tick", firstDraw(859).is(0), 1);
        Check.due(16, "x = 1009, a crash", firstDraw(1009).is(12), 1);
        Check.due(16, "x = 1007, a tick", firstDraw(1007).is(0), 1);
        evenYears();
    }

    /** Draws that end with an even digit come behind others alone: here, behind a tick. */
    private static void evenYears() {
        boolean[] met = new boolean[10];
        for (int seed = 0; seed < 10000; seed++) {
            int first = seed * 2 + 409;
            int x = (first * 773 + 641) % 31139;
            int kind = x % 10;
            int extent = (x / 10 % 10) * (x / 100 % 10) / 10;
            if (first % 10 == 7 && kind % 2 == 0 && !met[kind] && extent > 3) {
                met[kind] = true;
                WarmExtents made = new WarmExtents();
                made.years(seed, 2);
                Check.due(16, "x = " + x + ", clock", made.is(0), kind == 8 ? 2 : 1);
                if (kind < 6) {
                    Check.due(16, "x = " + x + ", heat", made.heat(extent), kind == 4 ? 12 : 8);
                    Check.due(16, "x = " + x + ", accesses", made.is(7), 1);
                }
            }
        }
        Check.due(16, "all kinds were met", met[0] && met[2] && met[4] && met[6] && met[8], true);
    }

    /** Seeds whose first draw is a tick and whose second ends with 6. */
    private static void scanOfAYear() {
        int found = 0;
        for (int seed = 0; seed < 10000 && found < 3; seed++) {
            int first = seed * 2 + 409;
            int second = (first * 773 + 641) % 31139;
            if ((first % 10 == 7) && second % 10 == 6) {
                found++;
                WarmExtents x = new WarmExtents();
                x.years(seed, 2);
                int from = second / 10 % 9;
                int[] sizes = {1, 2, 3, 4, 1, 2, 3, 4, 1, 2};
                Check.due(16, "accesses of seed " + seed, x.is(7), sizes[from] + sizes[from + 1]);
                Check.due(16, "clock", x.is(0), 1);
                for (int e = 0; e < 10; e++) {
                    boolean read = e == from || e == from + 1;
                    int all = x.of(e, 1) + x.of(e, 2);
                    Check.due(16, "reads of " + e, all, read ? sizes[e] : 0);
                }
            }
        }
        Check.due(16, "seeds found", found, 3);
    }

    private static void yearsEdges() {
        WarmExtents x = new WarmExtents();
        Check.due(16, "years(-1, 1)", x.years(-1, 1), -1);
        Check.due(16, "years(10000, 1)", x.years(10000, 1), -1);
        Check.due(16, "years(0, 0)", x.years(0, 0), -1);
        Check.due(16, "years(0, 25)", x.years(0, 25), -1);
        Check.due(16, "X as it was", x.is(1), 409);
        Check.due(16, "steps", x.about(1), 0);
        x.years(9999, 24);
        int draw = 9999 * 2 + 409;
        for (int i = 0; i < 24; i++) {
            draw = (draw * 773 + 641) % 31139;
        }
        Check.due(16, "X behind 24", x.is(1), draw);
        Check.due(16, "one step", x.about(1), 1);
    }

    private static void undo() {
        WarmExtents x = new WarmExtents();
        Check.due(17, "none", x.undo(), -1);
        x.write(0, 0, 5);
        x.write(0, 0, 6);
        Check.due(17, "undo", x.undo(), 1);
        Check.due(17, "on", x.on(0, 0), 5);
        Check.due(17, "undo", x.undo(), 0);
        Check.due(17, "on", x.on(0, 0), 0);
        Check.due(17, "cost", x.is(3), 0);
        Check.due(17, "none any more", x.undo(), -1);
        x.read(9, 9);
        x.day(0);
        x.drop(1);
        x.pin(0, 0);
        x.played(0);
        x.years(0, 0);
        Check.due(17, "what was not done is no step", x.about(1), 0);
    }

    private static void undoOfEach() {
        WarmExtents x = new WarmExtents();
        Check.makeFast(x, 1);
        x.ask(2);
        x.tell(0, 2);
        x.day(1);
        int steps = x.about(1);
        int cost = x.is(3);
        x.write(2, 0, 9);
        Check.due(17, "copied no more", x.move(0, 3), 5);
        x.undo();
        Check.due(17, "copied again", x.move(0, 3), 4);
        Check.due(17, "cost", x.is(3), cost);
        x.drop(2);
        x.undo();
        Check.due(17, "its slots", x.holder(2), 3);
        x.crash();
        x.undo();
        Check.due(17, "its move", x.move(0, 0), 2);
        Check.due(17, "nothing is dirty", x.of(1, 5), 0);
        Check.due(17, "crashes", x.is(12), 0);
        Check.due(17, "book", x.ledger(4), 0);
        x.pin(1, 2);
        x.undo();
        Check.due(17, "pins", x.of(1, 4), 0);
        x.tell(1, 11);
        x.undo();
        Check.due(17, "budget", x.is(5), 6);
        x.years(7, 9);
        x.undo();
        Check.due(17, "X", x.is(1), 409);
        Check.due(17, "clock", x.is(0), 2);
        x.scan(0, 9);
        x.undo();
        Check.due(17, "heads", x.head(-1, 0), 0);
        Check.due(17, "accesses", x.is(7), 0);
        x.day(8);
        x.undo();
        Check.due(17, "epoch", x.is(2), 0);
        x.ask(9);
        x.undo();
        Check.due(17, "moves", x.move(-1, 0), 1);
        Check.due(17, "steps", x.about(1), steps);
    }

    /** All that is told of a world, one behind the other. */
    private static int[] told(WarmExtents x) {
        int[] all = new int[500];
        int at = 0;
        for (int i = 0; i < 13; i++) {
            all[at++] = x.is(i);
        }
        for (int e = 0; e < 10; e++) {
            all[at++] = x.heat(e);
            all[at++] = x.where(e);
            all[at++] = x.gained(e);
            for (int what = 0; what < 9; what++) {
                all[at++] = x.of(e, what);
            }
            for (int block = 0; block < 4; block++) {
                all[at++] = x.slot(e, block);
                all[at++] = x.move(e, block);
            }
        }
        for (int p = 0; p < 23; p++) {
            all[at++] = x.on(0, p);
            all[at++] = x.on(1, p);
            all[at++] = x.holder(p);
            all[at++] = x.head(p, 0);
            all[at++] = x.head(p, 1);
            for (int what = 0; what < 4; what++) {
                all[at++] = x.book(p, what);
            }
        }
        return all;
    }

    private static void undoOfAll() {
        WarmExtents x = new WarmExtents();
        Check.makeFast(x, 1);
        Check.makeFast(x, 4);
        x.write(1, 0, 7);
        x.read(4, 0);
        x.scan(2, 3);
        x.day(4);
        x.write(1, 1, 8);
        x.scan(0, 4);
        x.pin(0, 1);
        x.tell(0, 1);
        x.ask(3);
        x.ask(1);
        x.ask(0);
        x.day(1);
        int[] due = told(x);
        x.image();
        Check.read(x, "loop 9{loop 5{write a,b,a*10+b+500;tick;}}loop 4{tick;crash;scan 3,7;}");
        x.played(0);
        undone(x, due, "of a text");
        x.years(4321, 24);
        undone(x, due, "of years");
        x.crash();
        undone(x, due, "of a crash");
        x.day(8);
        undone(x, due, "of a day");
        x.would(0);
        x.foretold(8, 1);
        same(42, x, due, "of what would be");
        x.played(0);
        x.years(4321, 24);
        x.back();
        same(53, x, due, "back");
    }

    private static void undone(WarmExtents x, int[] due, String what) {
        x.undo();
        same(17, x, due, "undo " + what);
    }

    private static void same(int promise, WarmExtents x, int[] due, String what) {
        int[] got = told(x);
        for (int i = 0; i < due.length; i++) {
            Check.due(promise, what + ", number " + i, got[i], due[i]);
        }
    }

    private static void thirtySteps() {
        WarmExtents x = new WarmExtents();
        for (int i = 1; i <= 45; i++) {
            x.write(0, 0, i);
            Check.due(54, "steps", x.about(1), Math.min(i, 30));
        }
        for (int i = 1; i <= 30; i++) {
            Check.due(17, "undo", x.undo(), 30 - i);
            Check.due(17, "on", x.on(0, 0), 45 - i);
        }
        Check.due(17, "no more", x.undo(), -1);
        Check.due(17, "on", x.on(0, 0), 15);
    }

    private static void undoLeavesTexts() {
        WarmExtents x = new WarmExtents();
        x.day(1);
        Check.read(x, "tick;");
        Check.tape(x, "read 0");
        x.undo();
        Check.due(17, "texts stay", x.about(0), 1);
        // no step has to do with the tape, so it is regarded as one of the TEXTS here
        Check.due(17, "the tape stays", x.about(2), 6);
        Check.due(17, "clock", x.is(0), 0);
        x.played(0);
        x.undo();
        Check.due(17, "clock", x.is(0), 0);
    }

    private static void book() {
        WarmExtents x = new WarmExtents();
        Check.due(50, "none", x.book(-1, 0), 0);
        Check.due(50, "book(0, 0)", x.book(0, 0), -2);
        Check.due(50, "book(7, 0)", x.book(7, 0), -2);
        for (int i = 0; i < 30; i++) {
            x.pin(i % 10, 1 + i / 10 % 2);
        }
        Check.due(50, "pins that are as they were", x.book(-1, 0), 25);
        Check.due(50, "the eldest", x.book(0, 2), 5);
        Check.due(50, "the latest", x.book(24, 2), 9);
        Check.due(50, "how many, whatever is asked", x.book(-1, 77), 25);
        Check.due(50, "book(25, 0)", x.book(25, 0), -2);
        Check.due(50, "book(-2, 0)", x.book(-2, 0), -2);
        Check.due(50, "book(0, 4)", x.book(0, 4), -2);
        Check.due(50, "book(0, 5)", x.book(0, 5), -2);
        Check.due(50, "book(0, -1)", x.book(0, -1), -2);
        Check.due(51, "pinned", x.ledger(5), 25);
        x.day(1);
        x.crash();
        Check.due(50, "clock", x.book(24, 0), 1);
        Check.due(50, "crashed", x.book(24, 1), 4);
        Check.due(51, "pinned", x.ledger(5), 24);
        Check.due(51, "crashed", x.ledger(4), 1);
        Check.due(51, "begun", x.ledger(0), 0);
        x.tell(1, 0);
        x.day(8);
        Check.due(51, "planned", x.ledger(3), 2);
        Check.due(51, "ledger(6)", x.ledger(6), -1);
        Check.due(51, "ledger(-1)", x.ledger(-1), -1);
        WarmExtents y = new WarmExtents();
        Check.makeFast(y, 0);
        y.ask(1);
        y.drop(1);
        Check.due(51, "begun", y.ledger(0), 1);
        Check.due(51, "switched", y.ledger(1), 1);
        Check.due(51, "dropped", y.ledger(2), 1);
    }

    private static void image() {
        WarmExtents x = new WarmExtents();
        Check.read(x, "tick;");
        x.write(3, 1, 44);
        x.day(3);
        x.pin(2, 1);
        Check.tape(x, "read 1,");
        Check.due(52, "image", x.image(), 3);
        Check.due(54, "no step", x.about(1), 3);
        Check.read(x, "crash,");
        Check.read(x, "crash;");
        x.write(3, 1, 45);
        x.day(8);
        x.pin(2, 2);
        x.years(1, 24);
        Check.tape(x, "rea");
        Check.due(53, "back", x.back(), 3);
        Check.due(53, "on", x.on(0, 7), 44);
        Check.due(53, "X", x.is(1), 409);
        Check.due(53, "pins", x.of(2, 4), 1);
        Check.due(53, "book", x.book(-1, 0), 1);
        Check.due(53, "texts", x.about(0), 1);
        Check.due(53, "steps", x.about(1), 3);
        Check.due(53, "but the tape is not", x.about(2), 3);
        Check.due(53, "nor the fault", x.fault(0), 0);
        Check.due(53, "a text again", Check.read(x, "crash;crash;"), 1);
        Check.due(15, "it is played", x.played(1), 2);
        Check.due(53, "back once more, the image stays", x.back(), 3);
        Check.due(15, "the first text is as it was", x.played(0), 1);
        Check.due(15, "the second is gone", x.played(1), -1);
        x.back();
        Check.due(53, "texts", x.about(0), 1);
        Check.due(53, "crashes", x.is(12), 0);
    }

    private static void imageKeepsTexts() {
        WarmExtents x = new WarmExtents();
        Check.read(x, "tick;");
        Check.read(x, "tick;tick;");
        x.image();
        Check.read(x, "crash;");
        WarmExtents y = new WarmExtents();
        y.back();
        Check.due(53, "others have nothing to do with it", x.about(0), 3);
        x.back();
        Check.due(4, "a new third", Check.read(x, "tick;tick;tick;"), 2);
        for (int i = 0; i < 3; i++) {
            Check.due(15, "played(" + i + ")", x.played(i), i + 1);
        }
        Check.due(4, "a fourth", Check.read(x, "crash;"), 3);
        x.image();
        x.back();
        for (int i = 0; i < 3; i++) {
            Check.due(15, "played(" + i + ")", x.played(i), i + 1);
        }
        Check.due(15, "played(3)", x.played(3), 1);
        Check.due(15, "played(4)", x.played(4), -1);
        WarmExtents z = new WarmExtents();
        Check.read(z, "tick;");
        z.back();
        Check.due(4, "the first again", Check.read(z, "tick;tick;"), 0);
        z.image();
        z.back();
        Check.due(15, "the image has it", z.played(0), 2);
    }

    private static void imageKeepsSteps() {
        WarmExtents x = new WarmExtents();
        for (int i = 1; i <= 40; i++) {
            x.write(0, 0, i);
        }
        x.image();
        for (int i = 0; i < 12; i++) {
            x.undo();
        }
        x.write(0, 0, 500);
        x.write(0, 0, 501);
        x.back();
        Check.due(53, "steps", x.about(1), 30);
        for (int i = 1; i <= 30; i++) {
            Check.due(53, "undo", x.undo(), 30 - i);
            Check.due(53, "on", x.on(0, 0), 40 - i);
        }
        x.back();
        Check.due(53, "steps again", x.about(1), 30);
        Check.due(53, "on", x.on(0, 0), 40);
        x.day(2);
        x.undo();
        Check.due(53, "undone", x.undo(), 28);
        Check.due(53, "on", x.on(0, 0), 39);
    }
}

/** Promises 39 to 49: what was gained, what would be, heats and shares. */
public final class ForetellTest {
    public static void main(String[] args) {
        gained();
        foretold();
        wouldCost();
        changesNothing();
        ranks();
        coldest();
        cools();
        shares();
        Check.end("ForetellTest");
    }

    private static void gained() {
        WarmExtents x = new WarmExtents();
        x.read(2, 0);
        Check.due(39, "slow", x.gained(2), Check.MIN);
        Check.due(39, "gained(10)", x.gained(10), Check.MIN);
        Check.due(39, "gained(-1)", x.gained(-1), Check.MIN);
        Check.makeFast(x, 2);
        Check.due(39, "just switched", x.gained(2), -27);
        x.read(2, 0);
        x.read(2, 1);
        x.write(2, 2, 5);
        Check.due(39, "reads and a write", x.gained(2), -27 + 7 + 7 + 8);
        x.scan(2, 2);
        x.scan(2, 3);
        Check.due(39, "streamed ones too", x.gained(2), -27 + 14 + 8 + 42);
        x.crash();
        Check.due(39, "a crash takes nothing of it", x.gained(2), 37);
        x.ask(2);
        x.day(1);
        Check.due(39, "slow again", x.gained(2), Check.MIN);
        x.ask(2);
        x.day(1);
        Check.due(39, "from anew", x.gained(2), -27);
    }

    private static void foretold() {
        WarmExtents x = new WarmExtents();
        x.ask(3);
        x.ask(2);
        Check.due(40, "3 behind one", x.foretold(1, 3), 0);
        Check.due(40, "3 behind two", x.foretold(2, 3), 1);
        Check.due(40, "2 behind two", x.foretold(2, 2), 0);
        Check.due(40, "2 behind three", x.foretold(3, 2), 1);
        Check.due(41, "copies(1)", x.copies(1), 3);
        Check.due(41, "copies(2)", x.copies(2), 6);
        Check.due(41, "copies(3)", x.copies(3), 7);
        Check.due(41, "copies(8)", x.copies(8), 7);
        x.day(2);
        Check.due(41, "those made ahead don't count", x.copies(8), 1);
        Check.due(40, "foretold(0, 0)", x.foretold(0, 0), -1);
        Check.due(40, "foretold(9, 0)", x.foretold(9, 0), -1);
        Check.due(40, "foretold(-1, 0)", x.foretold(-1, 0), -1);
        Check.due(40, "foretold(1, 10)", x.foretold(1, 10), -1);
        Check.due(40, "foretold(1, -1)", x.foretold(1, -1), -1);
        Check.due(41, "copies(0)", x.copies(0), -1);
        Check.due(41, "copies(9)", x.copies(9), -1);
        WarmExtents y = new WarmExtents();
        y.pin(0, 1);
        Check.due(40, "planned on the way", y.foretold(4, 0), 0);
        Check.due(40, "and done", y.foretold(5, 0), 1);
        Check.due(41, "copies(5)", y.copies(5), 1);
    }

    private static void wouldCost() {
        WarmExtents x = new WarmExtents();
        Check.due(42, "would(0), none", x.would(0), -1);
        Check.due(43, "cheapest, none", x.cheapest(), -1);
        Check.read(x, "read 1,0;read 1,1;");
        Check.read(x, "write 1,0,5;");
        Check.read(x, "write 2,0,5;");
        Check.due(42, "would(0)", x.would(0), 16);
        Check.due(42, "would(1)", x.would(1), 10);
        Check.due(42, "would(2)", x.would(2), 10);
        Check.due(42, "would(3)", x.would(3), -1);
        Check.due(42, "would(-1)", x.would(-1), -1);
        Check.due(43, "of like ones the lowest", x.cheapest(), 1);
        Check.makeFast(x, 1);
        Check.due(42, "would(0) on fast", x.would(0), 2);
        Check.due(42, "would(1) on fast", x.would(1), 2);
        Check.due(43, "of like ones the lowest", x.cheapest(), 0);
        x.ask(2);
        Check.read(x, "tick;");
        Check.due(42, "copies cost", x.would(3), 27);
        x.crash();
        Check.due(42, "nothing to do", x.would(3), 0);
        Check.due(43, "the last", x.cheapest(), 3);
    }

    private static void changesNothing() {
        WarmExtents x = new WarmExtents();
        Check.read(x, "write 3,0,9;loop 9{tick;read 3,1;}crash;");
        x.pin(3, 1);
        x.would(0);
        x.cheapest();
        x.foretold(8, 3);
        x.copies(8);
        x.plan();
        x.displaced(3);
        x.next(0);
        x.enough();
        Check.due(42, "clock", x.is(0), 0);
        Check.due(42, "cost", x.is(3), 0);
        Check.due(42, "crashes", x.is(12), 0);
        Check.due(42, "on slow", x.on(0, 6), 6);
        Check.due(42, "heat", x.heat(3), 0);
        Check.due(42, "heads", x.head(-1, 0), 0);
        Check.due(40, "moves", x.move(-1, 0), 0);
        Check.due(42, "book", x.book(-1, 0), 1);
        Check.due(42, "steps", x.about(1), 1);
        Check.due(15, "played", x.played(0), 20);
        Check.due(15, "clock", x.is(0), 9);
    }

    private static void ranks() {
        WarmExtents x = new WarmExtents();
        Check.warm(x, 3, 2);
        Check.warm(x, 7, 3);
        Check.warm(x, 5, 2);
        int[] order = {7, 3, 5, 0, 1, 2, 4, 6, 8, 9};
        for (int i = 0; i < 10; i++) {
            Check.due(44, "rank(" + i + ")", x.rank(i), order[i]);
        }
        Check.due(44, "rank(10)", x.rank(10), -1);
        Check.due(44, "rank(-1)", x.rank(-1), -1);
    }

    private static void coldest() {
        WarmExtents x = new WarmExtents();
        Check.due(45, "none is fast", x.coldest(1), -1);
        Check.due(46, "none is fast", x.warmth(1), 0);
        Check.makeFast(x, 1);
        Check.due(45, "just one", x.coldest(1), 1);
        Check.makeFast(x, 4);
        Check.due(45, "like heats", x.coldest(1), 4);
        Check.warm(x, 4, 1);
        Check.due(45, "the colder", x.coldest(1), 1);
        Check.warm(x, 9, 2);
        Check.due(45, "of slow ones", x.coldest(0), 8);
        Check.due(46, "warmth(0)", x.warmth(0), 16);
        Check.due(45, "coldest(2)", x.coldest(2), -1);
        x.read(0, 0);
        Check.due(46, "0 is counted", x.warmth(0), 24);
        WarmExtents y = new WarmExtents();
        Check.makeFast(y, 0);
        Check.due(45, "just 0", y.coldest(1), 0);
        Check.due(45, "coldest(-1)", x.coldest(-1), -1);
        Check.due(46, "warmth(1)", x.warmth(1), 8);
        Check.due(46, "warmth(2)", x.warmth(2), -1);
        Check.due(46, "warmth(-1)", x.warmth(-1), -1);
    }

    private static void cools() {
        WarmExtents x = new WarmExtents();
        Check.due(47, "cold", x.cools(0), 0);
        x.read(0, 0);
        Check.due(47, "8", x.cools(0), 4);
        x.day(4);
        x.day(4);
        x.day(4);
        Check.due(47, "1", x.cools(0), 1);
        x.write(0, 0, 1);
        Check.due(47, "13", x.cools(0), 4);
        x.read(0, 0);
        Check.due(47, "21", x.cools(0), 5);
        Check.due(47, "cools(10)", x.cools(10), -1);
        Check.due(47, "cools(-1)", x.cools(-1), -1);
    }

    private static void shares() {
        WarmExtents x = new WarmExtents();
        Check.due(48, "without any", x.share(), 0);
        Check.due(49, "without any", x.mean(), 0);
        x.ask(1);
        x.day(1);
        Check.due(49, "cost, but no access", x.mean(), 0);
        x.read(0, 0);
        Check.due(48, "0 of 1", x.share(), 0);
        Check.due(49, "26 by 1", x.mean(), Double.doubleToLongBits(26.0));
        x.read(1, 0);
        Check.due(48, "1 of 2", x.share(), Float.floatToIntBits(0.5f));
        Check.due(49, "27 by 2", x.mean(), Double.doubleToLongBits(13.5));
        x.read(0, 0);
        Check.due(48, "1 of 3", x.share(), Float.floatToIntBits(1f / 3f));
        Check.due(49, "35 by 3", x.mean(), Double.doubleToLongBits(35.0 / 3.0));
        WarmExtents y = new WarmExtents();
        Check.makeFast(y, 1);
        for (int all = 1; all <= 300; all++) {
            y.read(all % 7 == 0 ? 0 : 1, 0);
            Check.due(48, "share of " + all, y.share(), Float.floatToIntBits((float) y.is(8) / (float) y.is(7)));
            Check.due(49, "mean of " + all, y.mean(), Double.doubleToLongBits((double) y.is(3) / (double) y.is(7)));
        }
        WarmExtents z = new WarmExtents();
        Check.makeFast(z, 1);
        z.read(1, 0);
        Check.due(48, "1 of 1", z.share(), Float.floatToIntBits(1f));
        Check.due(49, "19 by 1", z.mean(), Double.doubleToLongBits(19.0));
    }
}

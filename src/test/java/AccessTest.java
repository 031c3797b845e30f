/** Promises 6, 7, 8, 18 to 27: accesses, streams, heats, and what lies where. */
public final class AccessTest {
    public static void main(String[] args) {
        reads();
        writes();
        scans();
        streams();
        headsAreThree();
        coldStreams();
        onFast();
        greatestHeat();
        edges();
        Check.end("AccessTest");
    }

    private static void reads() {
        WarmExtents x = new WarmExtents();
        Check.due(6, "read(0, 0)", x.read(0, 0), 0);
        Check.due(6, "read(9, 1)", x.read(9, 1), 22);
        Check.due(6, "read(0, 1)", x.read(0, 1), -1);
        Check.due(6, "read(3, 4)", x.read(3, 4), -1);
        Check.due(6, "read(3, -1)", x.read(3, -1), -1);
        Check.due(6, "read(10, 0)", x.read(10, 0), -1);
        Check.due(6, "read(-1, 0)", x.read(-1, 0), -1);
        Check.due(18, "accesses", x.is(7), 2);
        Check.due(18, "cost", x.is(3), 16);
        Check.due(54, "steps", x.about(1), 2);
        Check.due(25, "heat(0)", x.heat(0), 8);
        Check.due(26, "seen", x.of(9, 0), 1);
        Check.due(26, "plain", x.of(9, 1), 1);
        Check.due(26, "streamed", x.of(9, 2), 0);
    }

    private static void writes() {
        WarmExtents x = new WarmExtents();
        Check.due(7, "write(4, 0, 999)", x.write(4, 0, 999), 0);
        Check.due(7, "write(4, 0, 1000)", x.write(4, 0, 1000), -1);
        Check.due(7, "write(4, 0, 1001)", x.write(4, 0, 1001), -1);
        Check.due(7, "write(4, 0, -1)", x.write(4, 0, -1), -1);
        Check.due(7, "write(4, 1, 5)", x.write(4, 1, 5), -1);
        Check.due(7, "write(4, -1, 5)", x.write(4, -1, 5), -1);
        Check.due(7, "write(10, 0, 5)", x.write(10, 0, 5), -1);
        Check.due(7, "write(-1, 0, 5)", x.write(-1, 0, 5), -1);
        Check.due(21, "on(0, 10)", x.on(0, 10), 999);
        Check.due(7, "write(4, 0, 0)", x.write(4, 0, 0), 0);
        Check.due(6, "read(4, 0)", x.read(4, 0), 0);
        Check.due(25, "heat(4)", x.heat(4), 12 + 12 + 8);
        Check.due(18, "cost", x.is(3), 10 + 10 + 8);
        Check.due(26, "dirty on slow", x.of(4, 5), 0);
        Check.due(54, "steps", x.about(1), 3);
    }

    private static void scans() {
        WarmExtents x = new WarmExtents();
        Check.due(8, "scan(0, 9)", x.scan(0, 9), 0);
        Check.due(18, "accesses", x.is(7), 23);
        Check.due(18, "streamed", x.is(9), 20);
        Check.due(54, "one step", x.about(1), 1);
        Check.due(8, "scan(3, 2)", x.scan(3, 2), -1);
        Check.due(8, "scan(-1, 2)", x.scan(-1, 2), -1);
        Check.due(8, "scan(9, 10)", x.scan(9, 10), -1);
        Check.due(8, "scan(10, 10)", x.scan(10, 10), -1);
        Check.due(54, "still one step", x.about(1), 1);
        Check.due(8, "scan(9, 9)", x.scan(9, 9), 0);
        Check.makeFast(x, 1);
        Check.makeFast(x, 9);
        Check.due(8, "scan(0, 2)", x.scan(0, 2), 2);
        Check.due(8, "scan(1, 9)", x.scan(1, 9), 4);
        Check.due(8, "scan(2, 8)", x.scan(2, 8), 0);
        Check.due(18, "on fast", x.is(8), 6);
    }

    private static void streams() {
        WarmExtents x = new WarmExtents();
        Check.due(27, "none", x.head(-1, 0), 0);
        Check.due(27, "head(0, 0)", x.head(0, 0), -2);
        x.read(7, 0);
        x.read(7, 1);
        x.read(7, 2);
        Check.due(27, "length 3", x.head(0, 1), 3);
        Check.due(18, "streamed yet", x.is(9), 0);
        Check.due(25, "heat", x.heat(7), 24);
        x.write(7, 3, 8);
        Check.due(18, "streamed by a write", x.is(9), 1);
        Check.due(25, "a stream warms nothing", x.heat(7), 24);
        Check.due(21, "but it writes", x.on(0, 19), 8);
        Check.due(18, "and costs", x.is(3), 34);
        Check.due(26, "plain", x.of(7, 1), 3);
        Check.due(26, "streamed", x.of(7, 2), 1);
        Check.due(27, "how many, whatever is asked", x.head(-1, 5), 1);
        Check.due(27, "awaited", x.head(0, 0), 20);
        Check.due(27, "length", x.head(0, 1), 4);
        Check.due(27, "head(0, 2)", x.head(0, 2), -2);
        Check.due(27, "head(0, -1)", x.head(0, -1), -2);
        Check.due(27, "head(1, 0)", x.head(1, 0), -2);
        Check.due(27, "head(-2, 0)", x.head(-2, 0), -2);
        Check.due(27, "head(2, 0)", x.head(2, 0), -2);
        Check.due(27, "head(3, 0)", x.head(3, 0), -2);
        x.read(8, 0);
        Check.due(26, "streamed, first in its extent", x.of(8, 2), 1);
        Check.due(26, "not seen", x.of(8, 0), 0);
        x.read(9, 1);
        Check.due(27, "behind the last position", x.head(1, 0), 23);
        x.read(9, 1);
        Check.due(27, "one that does so already is out", x.head(-1, 0), 2);
    }

    private static void headsAreThree() {
        WarmExtents x = new WarmExtents();
        x.read(0, 0);
        x.read(2, 0);
        x.read(3, 0);
        Check.due(27, "three", x.head(-1, 0), 3);
        x.read(5, 0);
        Check.due(27, "still three", x.head(-1, 0), 3);
        Check.due(27, "the eldest is out", x.head(0, 0), 4);
        Check.due(27, "the latest", x.head(2, 0), 12);
        x.read(2, 1);
        Check.due(27, "gone on with: it is the latest", x.head(2, 0), 5);
        Check.due(27, "its length", x.head(2, 1), 2);
        Check.due(27, "the eldest now", x.head(0, 0), 7);
        // awaited are 7, 12, 5
        x.read(3, 1);
        Check.due(27, "awaited", x.head(0, 0), 12);
        Check.due(27, "awaited", x.head(1, 0), 5);
        Check.due(27, "awaited", x.head(2, 0), 8);
        Check.due(27, "its length", x.head(2, 1), 2);
        // none awaits 6: a new one, and the eldest is out
        x.read(3, 0);
        Check.due(27, "three", x.head(-1, 0), 3);
        Check.due(27, "awaited", x.head(0, 0), 5);
        Check.due(27, "awaited", x.head(2, 0), 7);
        // 7 goes on, and 8, that was awaited already, is out
        x.read(3, 1);
        Check.due(27, "two", x.head(-1, 0), 2);
        Check.due(27, "awaited", x.head(1, 0), 8);
        Check.due(27, "length", x.head(1, 1), 2);
        x.read(3, 2);
        Check.due(27, "length of the one that awaits 9", x.head(1, 1), 3);
        x.read(0, 0);
        Check.due(27, "it isn't the latest", x.head(1, 1), 3);
        x.read(2, 2);
        Check.due(27, "the first was gone on with", x.head(2, 1), 3);
        Check.due(27, "so the next is the eldest", x.head(0, 1), 3);
        Check.due(27, "and the one of 0 is behind it", x.head(1, 1), 1);
        x.read(9, 0);
        Check.due(27, "the eldest is out", x.head(0, 1), 1);
        Check.due(27, "3 was behind it", x.head(1, 1), 3);
    }

    private static void coldStreams() {
        WarmExtents x = new WarmExtents();
        x.scan(3, 3);
        x.day(4);
        Check.due(26, "plain behind an epoch", x.of(3, 1), 0);
        Check.due(26, "streamed behind an epoch", x.of(3, 2), 0);
        Check.due(27, "heads stay", x.head(0, 1), 4);
        x.scan(4, 4);
        Check.due(26, "goes on", x.of(4, 2), 1);
    }

    private static void onFast() {
        WarmExtents x = new WarmExtents();
        x.write(1, 1, 77);
        Check.makeFast(x, 1);
        int cost = x.is(3);
        Check.due(19, "where(1)", x.where(1), 1);
        Check.due(6, "read on fast", x.read(1, 1), 77);
        Check.due(18, "its cost", x.is(3), cost + 1);
        Check.due(7, "write on fast", x.write(1, 0, 55), 1);
        Check.due(18, "its cost", x.is(3), cost + 3);
        Check.due(26, "dirty", x.of(1, 5), 1);
        x.write(1, 1, 56);
        Check.due(26, "dirty", x.of(1, 5), 3);
        Check.due(21, "newest", x.on(1, 0), 55);
        Check.due(21, "at home not yet", x.on(0, 1), 1);
        Check.due(6, "read", x.read(1, 0), 55);
        Check.due(18, "on fast", x.is(8), 4);
        Check.due(20, "slot(1, 0)", x.slot(1, 0), 0);
        Check.due(20, "slot(1, 1)", x.slot(1, 1), 1);
        Check.due(22, "holder(0)", x.holder(0), 1);
        Check.due(22, "holder(1)", x.holder(1), 2);
        Check.due(22, "holder(9)", x.holder(9), -1);
        Check.due(23, "free(0)", x.free(0), 2);
    }

    private static void greatestHeat() {
        WarmExtents x = new WarmExtents();
        Check.read(x, "loop 9{loop 9{loop 9{write 0,0,1;}}}");
        x.played(0);
        Check.due(25, "heat", x.heat(0), 3600);
        x.played(0);
        x.played(0);
        Check.due(25, "greatest heat", x.heat(0), 9999);
        x.read(0, 0);
        Check.due(25, "no more", x.heat(0), 9999);
        Check.due(26, "plain goes on", x.of(0, 1), 901);
    }

    private static void edges() {
        WarmExtents x = new WarmExtents();
        int[] starts = {0, 1, 3, 6, 10, 11, 13, 16, 20, 21};
        int[] sizes = {1, 2, 3, 4, 1, 2, 3, 4, 1, 2};
        for (int e = 0; e < 10; e++) {
            Check.due(24, "first of " + e, x.position(e, 0), starts[e]);
            Check.due(24, "last of " + e, x.position(e, sizes[e] - 1), starts[e] + sizes[e] - 1);
            Check.due(24, "behind " + e, x.position(e, sizes[e]), -1);
        }
        for (int e : new int[] {-1, 10, Integer.MAX_VALUE, Integer.MIN_VALUE}) {
            Check.due(19, "where", x.where(e), -1);
            Check.due(20, "slot", x.slot(e, 0), -1);
            Check.due(22, "holder", x.holder(e), -1);
            Check.due(23, "free", x.free(e), -1);
            Check.due(24, "position", x.position(e, 0), -1);
            Check.due(24, "position", x.position(0, e), -1);
            Check.due(25, "heat", x.heat(e), -1);
            Check.due(26, "of", x.of(e, 0), -1);
            Check.due(26, "of", x.of(0, e), -1);
            Check.due(21, "on", x.on(e, 0), -1);
            Check.due(18, "is", x.is(e == 10 ? 13 : e), -1);
        }
        Check.due(21, "on(1, 8)", x.on(1, 8), 0);
        Check.due(21, "on(1, 9)", x.on(1, 9), -1);
        Check.due(21, "on(1, -1)", x.on(1, -1), -1);
        Check.due(21, "on(0, -1)", x.on(0, -1), -1);
        Check.due(21, "on(0, 23)", x.on(0, 23), -1);
        Check.due(21, "on(2, 0)", x.on(2, 0), -1);
        Check.due(23, "free(8)", x.free(8), 8);
        Check.due(23, "free(9)", x.free(9), -1);
        Check.due(26, "of(0, 9)", x.of(0, 9), -1);
        Check.due(18, "is(12)", x.is(12), 0);
        Check.due(18, "is(2)", x.is(2), 0);
    }
}

/** Parts III and IV of the document at their edges, sentence by sentence: texts, their faults, how they are played, years. */
public final class EdgesOfTextsTest {
    private static final int[] SIZES = {1, 2, 3, 4, 1, 2, 3, 4, 1, 2};

    public static void main(String[] args) {
        fourTexts();
        threeHundredBytes();
        emptyText();
        blanks();
        letters();
        digits();
        numbers();
        fortyStatements();
        rounds();
        emptyBraces();
        signs();
        roundsGoneThrough();
        wrappedSums();
        placeOfFaults();
        firstFault();
        leastOfOneToken();
        fourthBrace();
        roundsWithoutLoop();
        statementTooMany();
        modsOfAccesses();
        scansOfTexts();
        threeHundredActs();
        endInAScan();
        oneStep();
        ticksForetold();
        costOfTexts();
        gainedAtOnce();
        hotterOnes();
        seeds();
        draws();
        scansOfYears();
        crashesOfYears();
        imageAndTape();
        Check.end("EdgesOfTextsTest");
    }

    private static void fourTexts() {
        Check.sentence("TEXTS 0 .. 3:");
        WarmExtents x = new WarmExtents();
        Check.due("played(0) without any", x.played(0), -1);
        for (int i = 0; i <= 3; i++) {
            Check.due("text " + i, Check.read(x, "crash;".repeat(i)), i);
        }
        Check.due("a fifth", Check.read(x, "tick;"), -1);
        for (int i = 0; i <= 3; i++) {
            Check.due("played(" + i + ")", x.played(i), i);
        }
        Check.due("played(4)", x.played(4), -1);
        Check.due("played(-1)", x.played(-1), -1);
        WarmExtents y = new WarmExtents();
        Check.read(y, "tick;".repeat(40));
        Check.read(y, "read 1,0;");
        Check.due("a short one behind a long one has nothing of it", y.played(1), 1);
    }

    private static void threeHundredBytes() {
        Check.sentence("of up to 300 bytes.");
        WarmExtents x = new WarmExtents();
        String ticks = "tick;" + " ".repeat(290) + "tick;";
        Check.due("bytes", ticks.length(), 300);
        Check.due("a text of all of them", Check.read(x, ticks), 0);
        Check.due("its last statement", x.played(0), 2);
        Check.due("300 tokens", Check.read(x, "}".repeat(300)), -1);
        Check.due("the first is blamed", x.fault(1), 0);
        String sums = "read 1,0" + "+1".repeat(145) + ";";
        Check.due("bytes", sums.length(), 299);
        Check.due("a text of nearly as many tokens", Check.read(x, sums), 1);
        Check.due("a read", x.played(1), 1);
        // 145 mod 2
        Check.due("of block 1", x.head(0, 0), 3);
    }

    private static void emptyText() {
        Check.sentence("{STATEMENT}, 40 at most in all, in others or not:");
        WarmExtents x = new WarmExtents();
        Check.due("no byte", x.text(), 0);
        Check.due("no fault", x.fault(0), 0);
        Check.due("no act", x.played(0), 0);
        Check.due("blanks alone", Check.read(x, "\n \n"), 1);
        Check.due("no act", x.played(1), 0);
    }

    private static void blanks() {
        Check.sentence("TOKENS, blanks (32, 10) aside:");
        WarmExtents x = new WarmExtents();
        Check.due("around all", Check.read(x, " \nloop\n3 {\n\nread 1 ,\n0 + 1 ; } "), 0);
        Check.due("played", x.played(0), 3);
        for (int sign = 0; sign < 256; sign++) {
            boolean blank = sign == 32 || sign == 10;
            Check.blamed("tick;" + (char) sign, blank ? 0 : 1, blank ? -1 : 5);
        }
    }

    private static void letters() {
        Check.sentence("letters a .. z, A .. Z one behind the other (one TOKEN),");
        for (int sign = 0; sign < 256; sign++) {
            boolean letter = sign >= 97 && sign <= 122 || sign >= 65 && sign <= 90;
            boolean blank = sign == 32 || sign == 10;
            int place = letter ? 0 : sign == ';' ? 5 : 4;
            Check.blamed("tick" + (char) sign + ";", blank ? 0 : 1, blank ? -1 : place);
        }
        Check.blamed("ti ck;", 1, 0);
        Check.blamed("TICK;", 1, 0);
        Check.blamed("tick;tickz;", 1, 5);
        Check.blamed("tick;crashcrash;", 1, 5);
    }

    private static void digits() {
        Check.sentence("digits likewise (NUMBERS, 0 .. 9999),");
        for (int sign = 0; sign < 256; sign++) {
            boolean goesOn = sign >= 48 && sign <= 57 || sign == 32 || sign == 10;
            int place = sign == ',' || sign == '+' || sign == '*' ? 7 : 6;
            Check.blamed("read 1" + (char) sign + ",0;", goesOn ? 0 : 1, goesOn ? -1 : place);
        }
        Check.blamed("read 1 0,0;", 1, 7);
    }

    private static void numbers() {
        Check.sentence("2 a NUMBER that isn't one of those told.");
        Check.blamed("read 0,9999;", 0, -1);
        Check.blamed("read 0,10000;", 2, 7);
        Check.blamed("read 10000,0;", 2, 5);
        Check.blamed("read 0+9999*10000,0;", 2, 12);
        Check.blamed("read 2147483648,0;", 2, 5);
        Check.blamed("read 4294967297,0;", 2, 5);
        Check.blamed("read 99999999999999999999999999999999,0;", 2, 5);
        Check.blamed("read 00000000000000000000000000000001,0;", 0, -1);
        Check.blamed("if 10000<1{}", 2, 3);
        Check.blamed("if 1<10000{}", 2, 5);
    }

    private static void rounds() {
        Check.sentence("loop NUMBER { {STATEMENT} } (1 .. 9)");
        Check.blamed("loop 0{}", 2, 5);
        Check.blamed("loop 1{}", 0, -1);
        Check.blamed("loop 9{}", 0, -1);
        Check.blamed("loop 10{}", 2, 5);
        Check.blamed("loop 10000{}", 2, 5);
        Check.blamed("loop {}", 1, 5);
        WarmExtents x = new WarmExtents();
        Check.read(x, "loop 1{tick;}");
        Check.read(x, "loop 9{tick;}");
        Check.due("once", x.played(0), 1);
        Check.due("nine times", x.played(1), 9);
    }

    private static void fortyStatements() {
        Check.sentence("{STATEMENT}, 40 at most in all,");
        WarmExtents x = new WarmExtents();
        Check.due("forty", Check.read(x, "tick;".repeat(40)), 0);
        Check.due("played", x.played(0), 40);
        Check.due("forty, in others", Check.read(x, "loop 2{" + "tick;".repeat(18) + "}if 0=0{" + "tick;".repeat(20) + "}"), 1);
        Check.due("played", x.played(1), 56);
        Check.due("41", Check.read(x, "tick;".repeat(41)), -1);
        Check.due("forty once more", Check.read(x, "tick;".repeat(40)), 2);
    }

    private static void emptyBraces() {
        Check.sentence("loop NUMBER { {STATEMENT} }");
        WarmExtents x = new WarmExtents();
        Check.due("nothing in it", Check.read(x, "loop 9{loop 9{}if 0=0{}}tick;"), 0);
        Check.due("played", x.played(0), 1);
        Check.blamed("loop 9{", 1, 7);
        Check.blamed("loop 9{}}", 1, 8);
        Check.blamed("loop 9}", 1, 6);
    }

    private static void signs() {
        Check.sentence("if SUM SIGN SUM { {STATEMENT} } (SIGN: < =).");
        WarmExtents x = new WarmExtents();
        Check.read(x, "if 2<3{tick;}if 3<3{crash;}if 4<3{crash;}if 3=3{tick;}if 2=3{crash;}if 4=3{crash;}if 0<1{tick;}if 0=0{tick;}");
        Check.due("played", x.played(0), 4);
        Check.due("no crash", x.is(12), 0);
        Check.blamed("if 2{}", 1, 4);
        Check.blamed("if 2<{}", 1, 5);
        Check.blamed("if <2{}", 1, 3);
        Check.blamed("if 2<=3{}", 1, 5);
    }

    private static void roundsGoneThrough() {
        Check.sentence("a, b, c: how often the first, second, third loop around it was gone through already (from 0, the outermost is the first).");
        WarmExtents x = new WarmExtents();
        Check.read(x, "loop 9{write 3,0,a;if a=0{write 3,1,a+100;}}loop 2{loop 3{loop 4{write 7,0,a*100+b*10+c;}}}");
        x.played(0);
        Check.due("a in the last of nine rounds", x.on(0, 6), 8);
        Check.due("a in the first", x.on(0, 7), 100);
        Check.due("a, b, c in their last", x.on(0, 16), 123);
        Check.read(x, "loop 1{loop 1{write 3,2,a+b;}}loop 2{loop 2{if a=1{write 3,3,b+200;}}}");
        x.played(1);
        Check.due("of one round alone", x.on(0, 8), 0);
        Check.due("an inner one begins from 0 again", x.on(0, 9), 201);
    }

    private static void wrappedSums() {
        Check.sentence("Each sum and product is mod 10000 at once.");
        WarmExtents x = new WarmExtents();
        Check.read(x, "if 9999+1=0{tick;}if 100*100=0{tick;}if 9999+9999=9998{tick;}if 9999*9999=1{tick;}"
                + "if 9999*9999*9999=9999{tick;}if 9999+1+1=1{tick;}if 5000+5000<1{tick;}");
        Check.due("all seven", x.played(0), 7);
        Check.read(x, "if 9999+0=9999{tick;}if 99*101=9999{tick;}if 9999*1<9999{crash;}");
        Check.due("9999 is not wrapped", x.played(1), 2);
    }

    private static void placeOfFaults() {
        Check.sentence("at the TOKEN's first byte (of the end at the length),");
        Check.blamed("tick", 1, 4);
        Check.blamed("tick \n ", 1, 7);
        Check.blamed("\n \nfoo", 1, 3);
        Check.blamed("read  12345 ,0;", 2, 6);
        Check.blamed("loop 2{tick;", 1, 12);
        Check.blamed(" ".repeat(297) + "end", 1, 297);
        Check.blamed("tick" + " ".repeat(296), 1, 300);
        Check.blamed("tick;" + " ".repeat(294) + "}", 1, 299);
    }

    private static void firstFault() {
        Check.sentence("FAULTS, the first as TOKENS are come to,");
        Check.blamed("read a,10000;!", 4, 5);
        Check.blamed("read 10000,a;!", 2, 5);
        Check.blamed("read !,10000;", 1, 5);
        Check.blamed("read 1,2;! read a,0;", 1, 9);
        WarmExtents x = new WarmExtents();
        Check.read(x, "foo");
        Check.read(x, "tick;");
        Check.due("behind a good one", x.fault(0), 0);
        Check.due("its place", x.fault(1), -1);
    }

    private static void leastOfOneToken() {
        Check.sentence("of one the least:");
        Check.blamed("tick 10000;", 1, 5);
        Check.blamed("loop a{}", 1, 5);
        Check.blamed("tick a;", 1, 5);
        String ticks = "tick;".repeat(37);
        Check.blamed(ticks + "if 1=1{if 1=1{if 1=1{loop 2{}}}}", 3, 185 + 21);
        Check.blamed("tick;".repeat(40) + "a;", 1, 200);
        Check.blamed("tick;".repeat(40) + "10000;", 1, 200);
    }

    private static void fourthBrace() {
        Check.sentence("3 the 4th { open around one another (at its loop, if).");
        Check.blamed("loop 1{loop 1{loop 1{}}}", 0, -1);
        Check.blamed("loop 1{loop 1{loop 1{ loop 1{}}}}", 3, 22);
        Check.blamed("if 1=1{if 1=1{if 1=1{ if 1=1{}}}}", 3, 22);
        Check.blamed("loop 1{loop 1{loop 1{}loop 1{}}loop 1{loop 1{}}}loop 1{}", 0, -1);
        Check.blamed("loop 1{loop 1{loop 1{}}loop 1{loop 1{loop 1{}}}}", 3, 37);
    }

    private static void roundsWithoutLoop() {
        Check.sentence("4 a, b, c without such a loop (at it).");
        Check.blamed("read a,0;", 4, 5);
        Check.blamed("loop 1{read a,b;}", 4, 14);
        Check.blamed("loop 1{loop 1{read b,c;}}", 4, 21);
        Check.blamed("loop 1{loop 1{loop 1{read a+b,c;}}}", 0, -1);
        Check.blamed("loop 1{}read a,0;", 4, 13);
        Check.blamed("loop 1{loop 1{}read b,0;}", 4, 20);
        Check.blamed("if 1=1{read a,0;}", 4, 12);
        Check.blamed("loop 1{if 1=1{read b,0;}}", 4, 19);
        Check.blamed("if a=1{}", 4, 3);
        Check.blamed("loop 1{read d,0;}", 1, 12);
        Check.blamed("loop 1{read A,0;}", 1, 12);
        Check.blamed("loop 1{read aa,0;}", 1, 12);
    }

    private static void statementTooMany() {
        Check.sentence("5 the 41st STATEMENT (at its first TOKEN).");
        Check.blamed("tick;".repeat(40), 0, -1);
        Check.blamed("tick;".repeat(40) + " tick;", 5, 201);
        Check.blamed("tick;".repeat(40) + "loop 0{}", 5, 200);
        Check.blamed("tick;".repeat(38) + "loop 2{tick;} crash;", 5, 204);
        Check.blamed("tick;".repeat(39) + "if 0=1{tick;}", 5, 202);
        Check.blamed("tick;".repeat(39) + "if 0=1{}", 0, -1);
    }

    private static void modsOfAccesses() {
        Check.sentence("read: a READ of EXTENT (the first SUM mod 10), BLOCK (the second mod its SIZE); write: likewise, a WRITE of the third mod 1000;");
        WarmExtents x = new WarmExtents();
        Check.read(x, "write 3,3,999;write 13,4,1000;write 9993,9,1001;write 9999,9999,9999;write 10,7,5;");
        Check.due("acts", x.played(0), 5);
        Check.due("block 3 of 3: 999", x.on(0, 9), 999);
        Check.due("block 0 of 3: 0", x.on(0, 6), 0);
        Check.due("block 1 of 3: 1", x.on(0, 7), 1);
        Check.due("block 1 of 9: 999", x.on(0, 22), 999);
        Check.due("block 0 of 0: 5", x.on(0, 0), 5);
        Check.read(x, "read 12,4;read 9999,2;");
        Check.due("acts", x.played(1), 2);
        Check.due("block 1 of 2", x.head(x.head(-1, 0) - 2, 0), 5);
        Check.due("block 0 of 9", x.head(x.head(-1, 0) - 1, 0), 22);
    }

    private static void scansOfTexts() {
        Check.sentence("none if from is above to;");
        WarmExtents x = new WarmExtents();
        Check.read(x, "scan 3,2;scan 9,0;scan 9,10;scan 9999,9998;");
        Check.due("no act", x.played(0), 0);
        Check.due("no access", x.is(7), 0);
        Check.read(x, "scan 3,3;scan 13,23;scan 9,9;");
        Check.due("just one extent", x.played(1), 4 + 4 + 2);
        Check.read(x, "scan 0,9;scan 10,9999;");
        Check.due("all extents", x.played(2), 46);
    }

    private static void threeHundredActs() {
        Check.sentence("Behind the 300th it ends.");
        WarmExtents x = new WarmExtents();
        Check.read(x, "loop 6{loop 6{loop 8{tick;}}}loop 6{loop 2{crash;}}");
        Check.due("just 300", x.played(0), 300);
        Check.due("ticks", x.is(0), 288);
        Check.due("crashes", x.is(12), 12);
        Check.read(x, "loop 6{loop 6{loop 8{tick;}}}loop 6{loop 2{crash;}}write 0,0,9;");
        Check.due("300", x.played(1), 300);
        Check.due("the 301st isn't done", x.on(0, 0), 0);
        Check.read(x, "loop 6{loop 6{loop 8{tick;}}}loop 6{if a<5{loop 2{crash;}}}tick;write 0,0,9;");
        Check.due("300", x.played(2), 300);
        Check.due("the 300th is done", x.on(0, 0), 9);
        Check.read(x, "loop 9{loop 9{loop 9{scan 9,0;}}}tick;");
        Check.due("what is no act isn't counted", x.played(3), 1);
    }

    private static void endInAScan() {
        Check.sentence("Each READ of a scan is an ACT (it may end in its midst).");
        WarmExtents x = new WarmExtents();
        // 13 scans of 23 are 299 acts
        Check.read(x, "loop 9{loop 2{scan 0,9;}}");
        Check.due("300", x.played(0), 300);
        Check.due("accesses", x.is(7), 300);
        Check.due("the last one is of position 0", x.head(x.head(-1, 0) - 1, 0), 1);
        Check.read(x, "tick;loop 9{loop 2{scan 0,9;}}write 0,0,7;");
        Check.due("300", x.played(1), 300);
        Check.due("accesses", x.is(7), 599);
        Check.due("the last one is of position 22", x.head(x.head(-1, 0) - 1, 0), 23);
        Check.due("nothing behind it", x.on(0, 0), 0);
        Check.read(x, "tick;tick;loop 9{loop 2{scan 0,9;}}");
        Check.due("300", x.played(2), 300);
        Check.due("accesses", x.is(7), 599 + 298);
        Check.due("the last one is of position 21", x.head(x.head(-1, 0) - 1, 0), 22);
    }

    private static void oneStep() {
        Check.sentence("It is one STEP, whatever was done.");
        WarmExtents x = new WarmExtents();
        Check.read(x, "");
        Check.read(x, "loop 9{scan 0,9;tick;}");
        x.played(0);
        Check.due("nothing", x.about(1), 1);
        x.played(1);
        Check.due("much", x.about(1), 2);
        x.undo();
        Check.due("all of it is taken back", x.is(7) + x.is(0), 0);
        Check.due("nothing is taken back", x.undo(), 0);
        Check.due("no more", x.undo(), -1);
    }

    private static void ticksForetold() {
        Check.sentence("FORETOLD behind n TICKS (1 .. 8), nothing else being done.");
        WarmExtents x = new WarmExtents();
        x.tell(0, 1);
        x.ask(3);
        Check.due("behind 0", x.copies(0), -1);
        for (int n = 1; n <= 8; n++) {
            Check.due("behind " + n, x.foretold(n, 3), n < 4 ? 0 : 1);
            Check.due("copies behind " + n, x.copies(n), Math.min(n, 4));
        }
        Check.due("behind 9", x.foretold(9, 3), -1);
        Check.due("behind 9", x.copies(9), -1);
        Check.due("nothing is changed", x.is(0) + x.is(10), 0);
    }

    private static void costOfTexts() {
        Check.sentence("WOULD COST: how much COST is more, were a TEXT PLAYED.");
        WarmExtents x = new WarmExtents();
        x.read(0, 0);
        Check.read(x, "");
        Check.read(x, "loop 9{loop 9{loop 9{write 1,0,7;}}}");
        Check.due("of nothing", x.would(0), 0);
        Check.due("of 300 acts", x.would(1), 3000);
        Check.due("nothing is changed", x.is(3), 8);
        Check.due("on slow neither", x.on(0, 1), 1);
    }

    private static void gainedAtOnce() {
        Check.sentence("GAINED by a FAST EXTENT: 7 for each READ, 8 for each WRITE since it was SWITCHED, less 9 for each of its BLOCKS.");
        WarmExtents x = new WarmExtents();
        x.read(3, 0);
        x.write(3, 0, 5);
        Check.makeFast(x, 3);
        Check.due("nothing yet", x.gained(3), -36);
        for (int i = 0; i < 5; i++) {
            x.read(3, 0);
        }
        Check.due("below 0 yet", x.gained(3), -1);
        x.write(3, 0, 5);
        Check.due("above", x.gained(3), 7);
        x.day(4);
        x.crash();
        Check.due("an epoch and a crash change nothing", x.gained(3), 7);
        x.ask(3);
        x.day(1);
        Check.due("slow", x.gained(3), Check.MIN);
        x.ask(3);
        x.day(1);
        Check.due("since it was switched the last time", x.gained(3), -36);
    }

    private static void hotterOnes() {
        Check.sentence("HOTTER is the greater HEAT, of like ones the lower EXTENT.");
        WarmExtents x = new WarmExtents();
        Check.due("all alike: the hottest", x.rank(0), 0);
        Check.due("the coldest", x.rank(9), 9);
        x.read(9, 0);
        x.read(5, 0);
        Check.due("of two alike", x.rank(0), 5);
        Check.due("the other", x.rank(1), 9);
        Check.due("then the cold ones", x.rank(2), 0);
        Check.due("the coldest", x.rank(9), 8);
        Check.due("of slow ones", x.coldest(0), 8);
    }

    private static void seeds() {
        Check.sentence("X is SEED (0 .. 9999) * 2 + 409; n times (1 .. 24) a draw x:");
        WarmExtents x = new WarmExtents();
        int[] before = Check.state(x);
        Check.due("years(-1, 1)", x.years(-1, 1), -1);
        Check.due("years(10000, 1)", x.years(10000, 1), -1);
        Check.due("years(0, 0)", x.years(0, 0), -1);
        Check.due("years(0, 25)", x.years(0, 25), -1);
        Check.unchanged(x, before);
        // 409 is a crash, 20407 a tick
        Check.due("years(0, 1)", x.years(0, 1), 0);
        Check.due("crashes", x.is(12), 1);
        Check.due("X", x.is(1), (409 * 773 + 641) % 31139);
        Check.due("years(9999, 1)", x.years(9999, 1), 1);
        Check.due("X", x.is(1), (20407 * 773 + 641) % 31139);
        int due = 409;
        for (int i = 0; i < 24; i++) {
            due = (due * 773 + 641) % 31139;
        }
        x.years(0, 24);
        Check.due("X behind 24", x.is(1), due);
        Check.due("steps", x.about(1), 3);
    }

    /** The draw behind the first one. */
    private static int secondDraw(int seed) {
        return ((seed * 2 + 409) * 773 + 641) % 31139;
    }

    /** From this one on, a seed whose first draw is a tick and whose second one ends with this digit; -1 without. */
    private static int seedOfKind(int kind, int from) {
        for (int seed = from; seed < 10000; seed++) {
            if ((seed * 2 + 409) % 10 == 7 && secondDraw(seed) % 10 == kind) {
                return seed;
            }
        }
        return -1;
    }

    private static void draws() {
        Check.sentence("x mod 10: 0 to 3 a READ of EXTENT (x / 10 mod 10) * (x / 100 mod 10) / 10, BLOCK x mod its SIZE; "
                + "4, 5 a WRITE, likewise, of VALUE x mod 1000; 6 READS of all BLOCKS of EXTENT x / 10 mod 9 and the next one; "
                + "7, 8 a TICK;");
        for (int kind = 0; kind <= 8; kind++) {
            for (int i = 0, seed = seedOfKind(kind, 0); i < 20 && seed >= 0; i++, seed = seedOfKind(kind, seed + 1)) {
                draw(kind, seed);
            }
        }
    }

    private static void draw(int kind, int seed) {
        int x = secondDraw(seed);
        int extent = x / 10 % 10 * (x / 100 % 10) / 10;
        WarmExtents made = new WarmExtents();
        made.years(seed, 2);
        String of = " of " + x;
        Check.due("clock" + of, made.is(0), kind >= 7 ? 2 : 1);
        if (kind <= 5) {
            Check.due("accesses" + of, made.is(7), 1);
            Check.due("cost" + of, made.is(3), kind <= 3 ? 8 : 10);
            Check.due("heat" + of, made.heat(extent), kind <= 3 ? 8 : 12);
            int position = made.position(extent, x % SIZES[extent]);
            Check.due("head" + of, made.head(0, 0), position + 1);
            Check.due("value" + of, made.on(0, position), kind <= 3 ? position : x % 1000);
        } else {
            int from = x / 10 % 9;
            Check.due("accesses" + of, made.is(7), kind == 6 ? SIZES[from] + SIZES[from + 1] : 0);
        }
    }

    private static void scansOfYears() {
        Check.sentence("6 READS of all BLOCKS of EXTENT x / 10 mod 9 and the next one;");
        boolean[] met = new boolean[10];
        for (int seed = seedOfKind(6, 0); seed >= 0; seed = seedOfKind(6, seed + 1)) {
            int x = secondDraw(seed);
            int from = x / 10 % 9;
            if (!met[from]) {
                met[from] = true;
                WarmExtents made = new WarmExtents();
                made.years(seed, 2);
                Check.due("first of " + x, made.of(from, 1) + made.of(from, 2), SIZES[from]);
                Check.due("next of " + x, made.of(from + 1, 1) + made.of(from + 1, 2), SIZES[from + 1]);
                Check.due("both of " + x, made.is(7), SIZES[from] + SIZES[from + 1]);
            }
        }
        Check.due("0 and 1 were met", met[0], true);
        Check.due("8 and 9 were met", met[8], true);
    }

    private static void crashesOfYears() {
        Check.sentence("9 a CRASH, if 4 divides x / 10, else a TICK.");
        int[] draws = {409, 419, 429, 439, 449, 1009, 1019, 20329, 20369};
        for (int x : draws) {
            WarmExtents made = new WarmExtents();
            int crash = x / 10 % 4 == 0 ? 1 : 0;
            Check.due("clock of " + x, made.years((x - 409) / 2, 1), 1 - crash);
            Check.due("crashes of " + x, made.is(12), crash);
            Check.due("a step", made.about(1), 1);
        }
    }

    private static void imageAndTape() {
        Check.sentence("AN IMAGE: all as it is, but the tape and the latest FAULT. BACK: all is so again.");
        WarmExtents x = new WarmExtents();
        Check.read(x, "tick;");
        Check.tape(x, "tick;tick;");
        x.image();
        Check.read(x, "read a,0;");
        Check.tape(x, "crash;");
        x.read(0, 0);
        x.back();
        Check.due("the tape is not as in it", x.about(2), 6);
        Check.due("nor is the fault", x.fault(0), 4);
        Check.due("nor its place", x.fault(1), 5);
        Check.due("all else is", x.is(7) + x.heat(0) + x.about(1), 0);
        Check.due("texts too", x.about(0), 1);
        Check.due("the tape is read", x.text(), 1);
        Check.due("a crash", x.played(1) + x.is(12), 2);
    }
}

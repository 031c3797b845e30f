/** Promises 2 to 5 and 15: the tape, the texts, their faults, how they are played. */
public final class TextsTest {
    public static void main(String[] args) {
        tape();
        texts();
        faults();
        numbersAndWords();
        faultsOfDepth();
        manyStatements();
        manyTexts();
        faultsStay();
        plays();
        loopsAndIfs();
        sums();
        ends();
        Check.end("TextsTest");
    }

    private static void tape() {
        WarmExtents x = new WarmExtents();
        Check.due(2, "first feed", x.feed(0x7469636b, 0x3b202020, 0x20202020, 0x20202020, 0x20202020), 20);
        Check.due(4, "text of what was fed", x.text(), 0);
        Check.due(15, "played of it", x.played(0), 1);
        for (int i = 1; i <= 15; i++) {
            Check.due(2, "feed " + i, x.feed(-1, -1, -1, -1, -1), 20 * i);
        }
        Check.due(2, "feed of a full tape", x.feed(0, 0, 0, 0, 0), -1);
        Check.due(54, "bytes", x.about(2), 300);
        Check.due(3, "end(301)", x.end(301), -1);
        Check.due(3, "end(-1)", x.end(-1), -1);
        Check.due(3, "end(-2)", x.end(-2), -1);
        Check.due(54, "bytes", x.about(2), 300);
        Check.due(3, "end(300)", x.end(300), 300);
        Check.due(3, "end(281)", x.end(281), 281);
        Check.due(2, "feed behind 281", x.feed(0, 0, 0, 0, 0), -1);
        Check.due(54, "bytes", x.about(2), 281);
        Check.due(3, "end(280)", x.end(280), 280);
        Check.due(3, "end(281)", x.end(281), -1);
        Check.due(2, "feed behind 280", x.feed(0, 0, 0, 0, 0), 300);
        Check.due(3, "end(0)", x.end(0), 0);
        Check.due(3, "end(0) again", x.end(0), 0);
        Check.due(3, "end(1)", x.end(1), -1);
    }

    private static void texts() {
        WarmExtents x = new WarmExtents();
        Check.due(4, "an empty text", x.text(), 0);
        Check.due(4, "blanks", Check.read(x, " \n "), 1);
        Check.due(4, "a bad one", Check.read(x, "tick"), -1);
        Check.due(54, "texts", x.about(0), 2);
        Check.due(4, "a third", Check.read(x, "tick;"), 2);
        Check.due(54, "bytes behind it", x.about(2), 0);
        Check.due(4, "a fourth", Check.read(x, "tick ;\ntick;"), 3);
        Check.due(4, "a fifth", Check.read(x, "tick;"), -1);
        Check.due(54, "texts", x.about(0), 4);
        Check.due(54, "the tape stays", x.about(2), 5);
        Check.due(15, "played(0)", x.played(0), 0);
        Check.due(15, "played(1)", x.played(1), 0);
        Check.due(15, "played(2)", x.played(2), 1);
        Check.due(15, "played(3)", x.played(3), 2);
        Check.due(15, "played(4)", x.played(4), -1);
        Check.due(15, "played(-1)", x.played(-1), -1);
        Check.due(15, "steps", x.about(1), 4);
        Check.due(15, "clock", x.is(0), 3);
    }

    private static void faults() {
        Check.dueFault("", 0, -1);
        Check.dueFault("read 1,2;", 0, -1);
        Check.dueFault("read 1;", 1, 6);
        Check.dueFault("read 1,2,3;", 1, 8);
        Check.dueFault("write 1,2;", 1, 9);
        Check.dueFault("write 1,2,3", 1, 11);
        Check.dueFault("write 1,2,3  ", 1, 13);
        Check.dueFault("scan 1;", 1, 6);
        Check.dueFault("scan 1,,2;", 1, 7);
        Check.dueFault("read 1+,2;", 1, 7);
        Check.dueFault("read *1,2;", 1, 5);
        Check.dueFault("read 1 2;", 1, 7);
        Check.dueFault("read 1a,2;", 1, 6);
        Check.dueFault("tick 1;", 1, 5);
        Check.dueFault("tick 10000;", 1, 5);
        Check.dueFault("crash,", 1, 5);
        Check.dueFault("loop{}", 1, 4);
        Check.dueFault("loop a{}", 1, 5);
        Check.dueFault("loop 2 tick;", 1, 7);
        Check.dueFault("loop 2{tick;", 1, 12);
        Check.dueFault("loop 2{tick;} }", 1, 14);
        Check.dueFault("}", 1, 0);
        Check.dueFault(";", 1, 0);
        Check.dueFault("7;", 1, 0);
        Check.dueFault("a;", 1, 0);
        Check.dueFault("if 1{}", 1, 4);
        Check.dueFault("if 1>2{}", 1, 4);
        Check.dueFault("if 1==2{}", 1, 5);
        Check.dueFault("if 1<2<3{}", 1, 6);
        Check.dueFault("if 1<2;", 1, 6);
        Check.dueFault("if <2{}", 1, 3);
        Check.dueFault("tick;\ttick;", 1, 5);
        Check.dueFault("tick;\u00ff", 1, 5);
        Check.dueFault("tick;\u0000", 1, 5);
        Check.dueFault("read 1-1,2;", 1, 6);
    }

    private static void numbersAndWords() {
        Check.dueFault("read 9999,0009;", 0, -1);
        Check.dueFault("read 10000,0;", 2, 5);
        Check.dueFault("read 0,000010000;", 2, 7);
        Check.dueFault("read 0,99999999999999999999;", 2, 7);
        Check.dueFault("read 4294967296,1;", 2, 5);
        Check.dueFault("read 0,00000000000000000001;", 0, -1);
        Check.dueFault("loop 0{}", 2, 5);
        Check.dueFault("loop 1{}", 0, -1);
        Check.dueFault("loop 9{}", 0, -1);
        Check.dueFault("loop 09{}", 0, -1);
        Check.dueFault("loop 10{}", 2, 5);
        Check.dueFault("loop 10000{}", 2, 5);
        Check.dueFault("loop9{tick;}if1<2{tick;}read1,2;", 0, -1);
        Check.dueFault("Tick;", 1, 0);
        Check.dueFault("ticks;", 1, 0);
        Check.dueFault("tic;", 1, 0);
        Check.dueFault("t ick;", 1, 0);
        Check.dueFault("readA 1,2;", 1, 0);
        Check.dueFault("readz 1,2;", 1, 0);
        Check.dueFault("readZ 1,2;", 1, 0);
        Check.dueFault("readM 1,2;", 1, 0);
        Check.dueFault("loop 2{read ab,1;}", 1, 12);
        Check.dueFault("loop 2{read A,1;}", 1, 12);
        Check.dueFault("loop 2{read d,1;}", 1, 12);
    }

    private static void faultsOfDepth() {
        Check.dueFault("read a,0;", 4, 5);
        Check.dueFault("loop 2{read b,0;}", 4, 12);
        Check.dueFault("read c,0;", 4, 5);
        Check.dueFault("loop 2{read c,0;}", 4, 12);
        Check.dueFault("loop 2{loop 2{read c,0;}}", 4, 19);
        Check.dueFault("loop 2{loop 2{loop 2{read a+b+c,a*b*c;}}}", 0, -1);
        Check.dueFault("loop 2{}read a,0;", 4, 13);
        Check.dueFault("loop 2{loop 2{}read b,0;}", 4, 20);
        Check.dueFault("if 1=1{read a,0;}", 4, 12);
        Check.dueFault("if 1=1{loop 2{read a,0;}}", 0, -1);
        Check.dueFault("if 1=1{loop 2{if a=b{}}}", 4, 19);
        Check.dueFault("loop 2{if 1=1{}read a,b;}", 4, 22);
        Check.dueFault("loop 2{loop 2{loop 2{tick;}}}", 0, -1);
        Check.dueFault("loop 2{loop 2{loop 2{loop 2{}}}}", 3, 21);
        Check.dueFault("loop 2{loop 2{loop 2{if 1=1{}}}}", 3, 21);
        Check.dueFault("if 1=1{if 1=1{if 1=1{ loop", 3, 22);
        Check.dueFault("if 1=1{if 1=1{if 1=1{}if 1=1{}}if 1=1{if 1=1{}}}", 0, -1);
        Check.dueFault("loop a+b", 1, 5);
    }

    private static void manyStatements() {
        String ticks = "tick;".repeat(38);
        Check.dueFault(ticks + "loop 2{tick;}", 0, -1);
        Check.dueFault(ticks + "loop 2{tick;tick;}", 5, 202);
        Check.dueFault(ticks + "loop 2{tick;;", 1, 202);
        Check.dueFault(ticks + "loop 2{tick;}crash,", 5, 203);
        Check.dueFault(ticks + "loop 2{tick;} }", 1, 204);
        Check.dueFault("tick;".repeat(37) + "if 1=1{if 1=1{if 1=1{tick;}}}", 5, 206);
        Check.dueFault("tick;".repeat(37) + "if 1=1{if 1=1{if 1=1{if 1=1{}}}}", 3, 206);
    }

    /** What was counted in a text has nothing to do with the next one. */
    private static void manyTexts() {
        WarmExtents x = new WarmExtents();
        Check.due(4, "forty", Check.read(x, "tick;".repeat(40)), 0);
        Check.due(4, "a fault in loops", Check.read(x, "loop 2{loop 2{loop 2{"), -1);
        Check.due(5, "at the end", x.fault(1), 21);
        Check.due(4, "no loop is around it", Check.read(x, "read a,0;"), -1);
        Check.due(5, "fault(0)", x.fault(0), 4);
        Check.due(4, "forty again", Check.read(x, "tick;".repeat(36) + "loop 2{loop 2{loop 2{tick;}}}"), 1);
        Check.due(15, "played", x.played(1), 44);
    }

    private static void faultsStay() {
        WarmExtents x = new WarmExtents();
        Check.due(5, "fault(0) ahead of any", x.fault(0), -1);
        Check.due(5, "fault(1) ahead of any", x.fault(1), -1);
        Check.read(x, "tick,");
        Check.due(5, "fault(0)", x.fault(0), 1);
        Check.due(5, "fault(1)", x.fault(1), 4);
        Check.due(5, "fault(2)", x.fault(2), -1);
        Check.due(5, "fault(-1)", x.fault(-1), -1);
        x.image();
        Check.read(x, "read a,0;");
        x.back();
        Check.due(53, "the latest fault behind back()", x.fault(0), 4);
        x.day(1);
        x.undo();
        Check.due(17, "the latest fault behind undo()", x.fault(1), 5);
        for (int i = 0; i < 4; i++) {
            Check.due(4, "text " + i, x.text(), i);
        }
        Check.due(5, "fault(0) of a good one", x.fault(0), 0);
        Check.due(5, "fault(1) of a good one", x.fault(1), -1);
        Check.due(4, "a bad fifth", Check.read(x, "tick,"), -1);
        Check.due(5, "a fifth isn't read", x.fault(0), 0);
        Check.due(4, "its tape stays", x.about(2), 5);
    }

    private static void plays() {
        WarmExtents x = new WarmExtents();
        Check.read(x, "write 13, 7, 4321; read 23,4; scan 18,9; tick; crash;");
        Check.due(15, "played", x.played(0), 7);
        Check.due(15, "written: extent 3, block 3, value 321", x.on(0, 9), 321);
        // a write of 3, a read of extent 3 (block 0), reads of extents 8, 9
        Check.due(15, "accesses", x.is(7), 5);
        Check.due(15, "cost", x.is(3), 10 + 4 * 8);
        Check.due(15, "clock", x.is(0), 1);
        Check.due(15, "crashes", x.is(12), 1);
        Check.due(15, "steps", x.about(1), 1);
        Check.due(17, "undo", x.undo(), 0);
        Check.due(17, "written no more", x.on(0, 9), 9);
        Check.due(17, "clock", x.is(0), 0);
        Check.read(x, "scan 5,4; read 3,2;");
        Check.due(15, "a scan of none", x.played(1), 1);
        Check.due(15, "heat of 3", x.heat(3), 8);
        Check.due(27, "block 2 of 3 was read", x.head(0, 0), 9);
        Check.read(x, "read 7,11; read 1,5;");
        Check.due(15, "reads", x.played(2), 2);
        Check.due(27, "block 3 of 7 was read", x.head(1, 0), 20);
        Check.due(27, "block 1 of 1 was read", x.head(2, 0), 3);
    }

    private static void loopsAndIfs() {
        WarmExtents x = new WarmExtents();
        Check.read(x, "loop 3{loop 2{if b<1{write a,0,a*100+b;}if b=1{write a,1,a*100+b;}}}");
        Check.due(15, "acts", x.played(0), 6);
        Check.due(15, "extent 0, its only block, last", x.on(0, 0), 1);
        Check.due(15, "extent 1, block 0", x.on(0, 1), 100);
        Check.due(15, "extent 1, block 1", x.on(0, 2), 101);
        Check.due(15, "extent 2, block 0", x.on(0, 3), 200);
        Check.due(15, "extent 2, block 1", x.on(0, 4), 201);
        Check.read(x, "if 0=0{loop 2{if a=1{loop 3{write 7,b,a*10+b;}}}}write 9,1,5;if 2<2{write 9,0,6;}");
        Check.due(15, "an if is no loop", x.played(1), -1);
        Check.read(x, "loop 2{if a=1{loop 3{write 7,b,a*10+b;}}}write 9,1,5;if 2<2{write 9,0,6;}");
        Check.due(15, "loops in an if", x.played(1), 4);
        Check.due(15, "extent 7, block 0", x.on(0, 16), 10);
        Check.due(15, "extent 7, block 1", x.on(0, 17), 11);
        Check.due(15, "extent 7, block 2", x.on(0, 18), 12);
        Check.due(15, "extent 7, block 3", x.on(0, 19), 19);
        Check.due(15, "extent 9, block 0", x.on(0, 21), 21);
        Check.due(15, "extent 9, block 1", x.on(0, 22), 5);
        Check.read(x, "if 1=1{loop 2{write 4,0,a+50;}}loop 2{loop 2{loop 2{if 1<0{}}}}loop 3{}tick;");
        Check.due(15, "a is the first loop, whatever ifs are around", x.played(2), -1);
        Check.read(x, "if 1=1{loop 2{write 4,0,a+50;}}loop 3{}tick;");
        Check.due(15, "a is the first loop, in an if too", x.played(2), 3);
        Check.due(15, "extent 4", x.on(0, 10), 51);
        Check.due(15, "played once more", x.played(2), 3);
    }

    private static void sums() {
        WarmExtents x = new WarmExtents();
        Check.read(x, "write 3,0,2+3*4;write 3,1,9999*9999;write 3,2,9999+2;write 3,3,9998*3+7*5000;");
        Check.due(15, "acts", x.played(0), 4);
        Check.due(15, "2+3*4", x.on(0, 6), 14);
        // 99980001 mod 10000 is 1
        Check.due(15, "9999*9999", x.on(0, 7), 1);
        Check.due(15, "9999+2", x.on(0, 8), 1);
        // 29994 mod 10000 and 35000 mod 10000 are 9994 and 5000, together 14994, so 4994
        Check.due(15, "9998*3+7*5000", x.on(0, 9), 994);
        Check.read(x, "write 9999*9999+1,5000*2*3+9999+9999,9999*9999*9999;");
        Check.due(15, "acts", x.played(1), 1);
        // extent 2, block 9998 mod 3 = 2; 9999*9999 is 1, times 9999 is 9999
        Check.due(15, "at once", x.on(0, 5), 999);
        Check.read(x, "if 9999+1=0{tick;}if 9999+1<1{tick;}if 5000*2=10*1000{tick;}");
        Check.due(15, "sums in ifs", x.played(2), 3);
    }

    private static void ends() {
        WarmExtents x = new WarmExtents();
        Check.read(x, "loop 9{loop 9{loop 9{tick;}}}");
        Check.due(15, "behind the 300th", x.played(0), 300);
        Check.due(15, "clock", x.is(0), 300);
        Check.read(x, "tick;loop 9{loop 9{scan 0,9;}}write 0,0,7;");
        Check.due(15, "in the midst of a scan", x.played(1), 300);
        // 299 reads: 13 scans of 23
        Check.due(15, "accesses", x.is(7), 299);
        Check.due(15, "nothing behind", x.on(0, 0), 0);
        Check.read(x, "tick;tick;loop 9{loop 9{scan 0,9;}}");
        Check.due(15, "in the midst of a scan", x.played(2), 300);
        Check.due(15, "accesses", x.is(7), 299 + 298);
        Check.read(x, "loop 6{loop 5{loop 5{crash;crash;}}}write 0,0,7;");
        Check.due(15, "just behind the 300th", x.played(3), 300);
        Check.due(15, "nothing behind", x.on(0, 0), 0);
        WarmExtents y = new WarmExtents();
        Check.read(y, "loop 9{loop 9{loop 9{scan 1,0;scan 2,0;scan 3,0;}}}read 5,0;");
        Check.due(15, "long, but without acts", y.played(0), 1);
    }
}

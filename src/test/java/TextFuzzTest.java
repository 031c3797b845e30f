import java.util.Random;

/** Random texts, with fixed seeds, held against the Oracle: good ones, ones with a fault, and heaps of tokens. */
public final class TextFuzzTest {
    private static final String[] TOKENS = {
        "read", "write", "scan", "tick", "crash", "loop", "if", "a", "b", "c", "d", "A", "ab", "{", "}", ";", ",", "+", "*",
        "<", "=", "0", "1", "2", "9", "10", "0007", "9999", "10000", "00010000", " ", "\n", "!", "\u00ff"
    };
    private static final int[] SIZES = {1, 2, 3, 4, 1, 2, 3, 4, 1, 2};

    private final Random random;
    private final WarmExtents tried = new WarmExtents();
    private final Oracle due = new Oracle();
    private final StringBuilder made = new StringBuilder();
    private int statementsLeft = 0;

    private TextFuzzTest(long seed) {
        random = new Random(seed);
    }

    public static void main(String[] args) {
        int runs = args.length > 0 ? Integer.parseInt(args[0]) : 400;
        int first = args.length > 1 ? Integer.parseInt(args[1]) : 1;
        int[] faults = new int[6];
        for (int seed = first; seed < first + runs; seed++) {
            new TextFuzzTest(seed).go(faults);
        }
        for (int what = 0; what < faults.length && runs >= 400; what++) {
            Check.due("whether there was a text with fault " + what, faults[what] > 0, true);
        }
        Check.end("TextFuzzTest");
    }

    private void go(int[] faults) {
        for (int i = 0; i < 6; i++) {
            makeText();
            String text = made.substring(0, Math.min(300, made.length()));
            Check.sentence(text);
            put(text);
            int number = due.text();
            Check.due("text()", tried.text(), number);
            Check.due("fault(0)", tried.fault(0), due.fault(0));
            Check.due("fault(1)", tried.fault(1), due.fault(1));
            faults[due.fault(0)]++;
            if (number >= 0) {
                Check.due("would", tried.would(number), due.would(number));
                Check.due("played", tried.played(number), due.played(number));
                look();
            }
            if (due.about(0) == 4) {
                Check.due("back()", tried.back(), due.back());
            }
        }
    }

    private void put(String text) {
        Check.tape(tried, text);
        due.end(0);
        for (int from = 0; from < text.length(); from += 20) {
            int[] five = new int[5];
            for (int i = 0; i < 20; i++) {
                int sign = from + i < text.length() ? text.charAt(from + i) : 32;
                five[i / 4] = five[i / 4] << 8 | sign;
            }
            due.feed(five[0], five[1], five[2], five[3], five[4]);
        }
        due.end(text.length());
    }

    private void look() {
        for (int what = 0; what <= 12; what++) {
            Check.due("is(" + what + ")", tried.is(what), due.is(what));
        }
        for (int e = 0; e < SIZES.length; e++) {
            for (int what = 0; what <= 8; what++) {
                Check.due("of(" + e + ", " + what + ")", tried.of(e, what), due.of(e, what));
            }
            Check.due("heat(" + e + ")", tried.heat(e), due.heat(e));
        }
        for (int position = 0; position < 23; position++) {
            Check.due("on(0, " + position + ")", tried.on(0, position), due.on(0, position));
        }
    }

    // ---- texts ----

    private void makeText() {
        made.setLength(0);
        int kind = random.nextInt(4);
        if (kind == 0) {
            for (int i = random.nextInt(30); i > 0; i--) {
                made.append(TOKENS[random.nextInt(TOKENS.length)]).append(random.nextInt(3) == 0 ? " " : "");
            }
            return;
        }
        statementsLeft = kind == 1 ? 60 : 12;
        for (int i = kind == 1 ? 38 + random.nextInt(6) : 1 + random.nextInt(6); i > 0; i--) {
            if (kind == 1 && random.nextInt(3) > 0) {
                made.append(random.nextBoolean() ? "tick;" : "crash;");
            } else {
                statement(0, 0);
            }
        }
        if (random.nextInt(3) == 0) {
            harm();
        }
    }

    private void harm() {
        int at = random.nextInt(made.length() + 1);
        if (at < made.length() && random.nextBoolean()) {
            made.deleteCharAt(at);
        } else {
            made.insert(at, TOKENS[random.nextInt(TOKENS.length)]);
        }
    }

    private void statement(int depth, int loops) {
        statementsLeft--;
        if (statementsLeft < 0 || made.length() > 290) {
            return;
        }
        switch (random.nextInt(depth >= 3 && random.nextInt(6) > 0 ? 5 : 8)) {
            case 0:
                made.append("tick;");
                break;
            case 1:
                made.append(random.nextInt(3) == 0 ? "crash;" : "tick;");
                break;
            case 2:
                sums("read ", 2, loops);
                break;
            case 3:
                sums("scan ", 2, loops);
                break;
            case 4:
                sums("write ", 3, loops);
                break;
            case 5:
                made.append("if ");
                sum(loops);
                made.append(random.nextBoolean() ? '<' : '=');
                sum(loops);
                body(depth, loops);
                break;
            default:
                made.append("loop ").append(random.nextInt(25) == 0 ? random.nextInt(13) : 1 + random.nextInt(9));
                body(depth, loops + 1);
        }
    }

    private void body(int depth, int loops) {
        made.append('{');
        for (int i = random.nextInt(4); i > 0; i--) {
            statement(depth + 1, loops);
        }
        made.append('}');
    }

    private void sums(String word, int many, int loops) {
        made.append(word);
        for (int i = 0; i < many; i++) {
            sum(loops);
            made.append(i < many - 1 ? ',' : ';');
        }
    }

    private void sum(int loops) {
        one(loops);
        for (int i = random.nextInt(3) == 0 ? random.nextInt(4) : 0; i > 0; i--) {
            made.append(random.nextBoolean() ? '+' : '*');
            one(loops);
        }
    }

    private void one(int loops) {
        if (loops > 0 && random.nextInt(3) == 0 || random.nextInt(60) == 0) {
            int known = Math.max(1, Math.min(3, loops));
            made.append((char) ('a' + random.nextInt(random.nextInt(8) == 0 ? 3 : known)));
        } else if (random.nextInt(4) == 0) {
            made.append(random.nextInt(10100));
        } else {
            made.append(random.nextInt(12));
        }
    }
}

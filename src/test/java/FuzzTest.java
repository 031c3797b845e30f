import java.lang.reflect.Method;
import java.util.ArrayList;
import java.util.List;
import java.util.Random;

/** Random runs of calls, held against the Oracle; the seeds are fixed, so each run of this test is the same. */
public final class FuzzTest {
    private static final String[] DEEDS = {
        "read", "read", "read", "write", "write", "scan", "scan", "pin", "tell", "ask", "ask", "drop", "day", "day",
        "day", "crash", "played", "years", "undo", "undo", "image", "back", "text", "end", "feed"
    };
    private static final String[] DEAR = {"threshold", "displaced", "would", "cheapest", "foretold", "copies", "enough"};

    private final Random random;
    private final WarmExtents tried = new WarmExtents();
    private final Oracle due = new Oracle();
    private final List<String> log = new ArrayList<>();
    private final int calm;
    private final boolean slow;
    private int wrong = 0;

    private FuzzTest(long seed) {
        random = new Random(seed);
        calm = (int) (seed % 4);
        slow = seed % 8 < 4;
    }

    public static void main(String[] args) throws Exception {
        int runs = args.length > 0 ? Integer.parseInt(args[0]) : 60;
        int first = args.length > 1 ? Integer.parseInt(args[1]) : 1;
        for (int seed = first; seed < first + runs; seed++) {
            FuzzTest run = new FuzzTest(seed);
            run.go();
            if (run.wrong > 0) {
                System.out.println("seed " + seed + ":");
                run.log.forEach(System.out::println);
                System.exit(1);
            }
        }
        System.out.println(runs + " random runs answered as due");
    }

    /** In half of the runs the moves are many and slow. */
    private void go() throws Exception {
        if (slow) {
            call("tell", 0, 1 + random.nextInt(2));
        }
        for (int i = 0; i < 170 && wrong == 0; i++) {
            deed();
            if (wrong == 0) {
                look();
            }
        }
    }

    /** Mostly an argument that can be, now and then one at or behind an edge. */
    private int upTo(int most) {
        switch (random.nextInt(24)) {
            case 0:
                return -1;
            case 1:
                return most + 1;
            case 2:
                return random.nextInt(5) == 0 ? random.nextInt() : most;
            default:
                return random.nextInt(most + 1);
        }
    }

    private int extent() {
        return random.nextInt(3) == 0 ? upTo(9) : random.nextInt(5) * 2 % 10;
    }

    private void deed() throws Exception {
        String name = DEEDS[random.nextInt(DEEDS.length)];
        if (calm > 0 && (name.equals("crash") || name.equals("back") || name.equals("years")) && random.nextInt(6) > 0) {
            name = "read";
        }
        if (slow && (name.equals("tell") || name.equals("undo") || name.equals("scan")) && random.nextInt(3) > 0) {
            name = "ask";
        }
        switch (name) {
            case "read":
                warm();
                break;
            case "write":
                call("write", extent(), upTo(2), upTo(999));
                break;
            case "scan":
                call("scan", upTo(9), upTo(9));
                break;
            case "pin":
                call("pin", extent(), upTo(2));
                break;
            case "tell":
                int what = upTo(2);
                call("tell", what, upTo(what == 0 ? 6 : what == 1 ? 12 : 40));
                break;
            case "ask":
            case "drop":
                call(name, extent());
                break;
            case "day":
                call("day", random.nextInt(slow ? 9 : 3) == 0 ? upTo(8) : 1 + random.nextInt(slow ? 2 : 3));
                break;
            case "played":
                call("played", upTo(3));
                break;
            case "years":
                call("years", upTo(9999), upTo(24));
                break;
            case "text":
            case "feed":
                newText();
                break;
            case "end":
                call("end", upTo(40));
                break;
            default:
                call(name);
        }
    }

    /** Reads of one extent, not in order, so that it is warmed. */
    private void warm() throws Exception {
        int extent = extent();
        for (int i = random.nextInt(6); i >= 0; i--) {
            call("read", extent, random.nextInt(3) == 0 ? upTo(3) : 0);
        }
    }

    private void newText() throws Exception {
        if (random.nextInt(10) > 0) {
            call("end", 0);
        }
        StringBuilder made = new StringBuilder();
        for (int i = random.nextInt(5); i >= 0; i--) {
            statement(made, 0, 0);
        }
        if (random.nextInt(3) == 0) {
            harm(made);
        }
        int length = Math.min(300, made.length());
        for (int from = 0; from < length; from += 20) {
            int[] five = new int[5];
            for (int i = 0; i < 20; i++) {
                int sign = from + i < length ? made.charAt(from + i) : 32;
                five[i / 4] = five[i / 4] << 8 | sign;
            }
            call("feed", five[0], five[1], five[2], five[3], five[4]);
        }
        call("end", length);
        call("text");
    }

    private void harm(StringBuilder made) {
        String signs = "{};,+*<=abcdxAZ09 \n->!\t\u00e9\u0000@[`:/";
        for (int i = random.nextInt(3); i >= 0 && made.length() > 0; i--) {
            int at = random.nextInt(made.length());
            char sign = signs.charAt(random.nextInt(signs.length()));
            switch (random.nextInt(4)) {
                case 0:
                    made.deleteCharAt(at);
                    break;
                case 1:
                    made.insert(at, sign);
                    break;
                case 2:
                    made.setLength(at);
                    break;
                default:
                    made.setCharAt(at, sign);
            }
        }
    }

    private void blank(StringBuilder made) {
        if (random.nextInt(8) == 0) {
            made.append(random.nextInt(3) == 0 ? '\n' : ' ');
        }
    }

    private void statement(StringBuilder made, int depth, int loops) {
        blank(made);
        int kind = random.nextInt(depth == 0 ? 9 : 11);
        if (kind <= 4 && depth > 2 && random.nextInt(30) > 0) {
            kind = 7;
        }
        switch (kind) {
            case 0: case 1: case 2:
                made.append("loop ").append(random.nextInt(40) == 0 ? random.nextInt(12) : 1 + random.nextInt(9));
                body(made, depth, loops + 1);
                break;
            case 3: case 4:
                made.append("if ");
                sum(made, loops);
                made.append(random.nextBoolean() ? '<' : '=');
                sum(made, loops);
                body(made, depth, loops);
                break;
            case 5:
                made.append("tick");
                blank(made);
                made.append(';');
                break;
            case 6:
                made.append(random.nextInt(4) == 0 ? "crash;" : "tick;");
                break;
            case 7: case 8:
                made.append("read ");
                sums(made, 2, loops);
                break;
            case 9:
                made.append("write ");
                sums(made, 3, loops);
                break;
            default:
                made.append("scan ");
                sums(made, 2, loops);
        }
    }

    private void body(StringBuilder made, int depth, int loops) {
        blank(made);
        made.append('{');
        for (int i = random.nextInt(4); i > 0; i--) {
            statement(made, depth + 1, loops);
        }
        blank(made);
        made.append('}');
    }

    private void sums(StringBuilder made, int many, int loops) {
        for (int i = 0; i < many; i++) {
            sum(made, loops);
            made.append(i < many - 1 ? ',' : ';');
        }
    }

    private void sum(StringBuilder made, int loops) {
        for (int more = 1; more > 0; more--) {
            blank(made);
            if (loops > 0 && random.nextBoolean() || random.nextInt(60) == 0) {
                made.append((char) ('a' + random.nextInt(random.nextInt(25) == 0 ? 3 : Math.max(1, loops))));
            } else {
                made.append(random.nextInt(9) == 0 ? random.nextInt(10030) : random.nextInt(12));
            }
            if (random.nextInt(3) == 0) {
                made.append(random.nextBoolean() ? '+' : '*');
                more++;
            }
        }
    }

    // ---- looking ----

    private void look() throws Exception {
        for (int i = -1; i <= 13; i++) {
            call("is", i);
            call("heat", i);
            call("where", i);
            call("moveOf", i);
            call("rank", i);
            call("cools", i);
            call("about", i);
            call("fault", i);
            call("ledger", i);
            call("next", i);
        }
        lookAtRows();
        call("plan");
        call("share");
        call("mean");
        for (int disk = -1; disk <= 2; disk++) {
            call("coldest", disk);
            call("warmth", disk);
        }
        for (int i = 0; i < 12; i++) {
            call("worth", upTo(12));
            call("value", bits());
            call("needs", bits());
            callMay(upTo(9), random.nextBoolean());
        }
        String name = DEAR[random.nextInt(DEAR.length)];
        for (int i = 0; i < 3; i++) {
            dear(name);
        }
    }

    private void lookAtRows() throws Exception {
        for (int e = -1; e <= 10; e++) {
            for (int i = -1; i <= 9; i++) {
                call("of", e, i);
                call("move", e, i > 4 ? upTo(3) : i);
            }
            for (int b = -1; b <= 4; b++) {
                call("slot", e, b);
                call("position", e, b);
            }
            call("holder", e);
            call("free", e);
        }
        for (int i = -2; i <= 25; i++) {
            for (int what = -1; what <= 4; what++) {
                call("book", i, what);
            }
            call("on", upTo(1), i);
            call("on", 0, i);
            call("on", 1, i);
            call("head", i, upTo(1));
            call("head", i > 3 ? upTo(2) : i, i & 1);
        }
    }

    private int bits() {
        switch (random.nextInt(4)) {
            case 0:
                return upTo(1023);
            case 1:
                return due.plan() ^ 1 << random.nextInt(10);
            case 2:
                return random.nextInt(1024) & random.nextInt(1024);
            default:
                return due.plan();
        }
    }

    private void dear(String name) throws Exception {
        switch (name) {
            case "threshold":
            case "displaced":
            case "would":
                call(name, upTo(name.equals("would") ? 3 : 9));
                break;
            case "foretold":
                call(name, upTo(8), upTo(9));
                break;
            case "copies":
                call(name, upTo(8));
                break;
            default:
                call(name);
        }
    }

    // ---- calls ----

    private static final List<Method> METHODS = List.of(WarmExtents.class.getDeclaredMethods());

    private void callMay(int extent, boolean in) {
        note("may(" + extent + ", " + in + ")", tried.may(extent, in), due.may(extent, in));
    }

    private void call(String name, int... args) throws Exception {
        Method method = METHODS.stream().filter(m -> m.getName().equals(name)).findFirst().get();
        Object[] boxed = new Object[args.length];
        StringBuilder says = new StringBuilder(name).append('(');
        for (int i = 0; i < args.length; i++) {
            boxed[i] = args[i];
            says.append(i > 0 ? ", " : "").append(args[i]);
        }
        Object got = method.invoke(tried, boxed);
        Object want = Oracle.class.getMethod(name, method.getParameterTypes()).invoke(due, boxed);
        note(says.append(')').toString(), got, want);
    }

    private void note(String call, Object got, Object want) {
        if (!got.equals(want)) {
            wrong++;
            log.add(call + " answered " + got + ", due is " + want);
        } else if (isDeed(call)) {
            log.add(call + " = " + got);
        }
    }

    private static boolean isDeed(String call) {
        for (String deed : DEEDS) {
            if (call.startsWith(deed + "(")) {
                return true;
            }
        }
        return false;
    }
}

import java.util.ArrayList;
import java.util.List;

/**
 * The document once more, as slow and literal as can be, with the Java library: every set is tried, every heat
 * is tried, a world is copied whole. FuzzTest holds the class against it.
 */
public final class Oracle {
    static final int[] SIZES = {1, 2, 3, 4, 1, 2, 3, 4, 1, 2};

    static int start(int extent) {
        int sum = 0;
        for (int e = 0; e < extent; e++) {
            sum += SIZES[e];
        }
        return sum;
    }

    // ---- the state ----

    static final class Move {
        int extent;
        boolean toFast;
        boolean begun;
        boolean[] copied = new boolean[4];

        Move copy() {
            Move m = new Move();
            m.extent = extent;
            m.toFast = toFast;
            m.begun = begun;
            m.copied = copied.clone();
            return m;
        }
    }

    static final class Ext {
        boolean fast;
        int heat, seen, plain, streamed, rest, pinned, savedHeat, savedSeen, switched, reads, writes;
        boolean[] dirty = new boolean[4];
        int[] slots = {-1, -1, -1, -1};

        Ext copy() {
            Ext x = new Ext();
            x.fast = fast;
            x.heat = heat;
            x.seen = seen;
            x.plain = plain;
            x.streamed = streamed;
            x.rest = rest;
            x.pinned = pinned;
            x.savedHeat = savedHeat;
            x.savedSeen = savedSeen;
            x.switched = switched;
            x.reads = reads;
            x.writes = writes;
            x.dirty = dirty.clone();
            x.slots = slots.clone();
            return x;
        }
    }

    static final class State {
        int clock, epoch, cost, x = 409, pace = 3, budget = 6, price = 4;
        int accesses, onFast, streamed, copies, switches, crashes;
        List<Ext> ext = new ArrayList<>();
        int[] slow = new int[23];
        int[] fast = new int[9];
        List<int[]> heads = new ArrayList<>();
        List<Move> moves = new ArrayList<>();
        List<int[]> book = new ArrayList<>();

        State() {
            for (int e = 0; e < 10; e++) {
                ext.add(new Ext());
            }
            for (int p = 0; p < 23; p++) {
                slow[p] = p;
            }
        }

        State copy() {
            State s = new State();
            s.clock = clock;
            s.epoch = epoch;
            s.cost = cost;
            s.x = x;
            s.pace = pace;
            s.budget = budget;
            s.price = price;
            s.accesses = accesses;
            s.onFast = onFast;
            s.streamed = streamed;
            s.copies = copies;
            s.switches = switches;
            s.crashes = crashes;
            s.ext = new ArrayList<>();
            ext.forEach(v -> s.ext.add(v.copy()));
            s.slow = slow.clone();
            s.fast = fast.clone();
            heads.forEach(v -> s.heads.add(v.clone()));
            moves.forEach(v -> s.moves.add(v.copy()));
            book.forEach(v -> s.book.add(v.clone()));
            return s;
        }

        Move moveOf(int e) {
            for (Move m : moves) {
                if (m.extent == e) {
                    return m;
                }
            }
            return null;
        }

        boolean slotIsFree(int slot) {
            return holder(slot) == -1;
        }

        int holder(int slot) {
            for (int e = 0; e < 10; e++) {
                for (int b = 0; b < SIZES[e]; b++) {
                    if (ext.get(e).slots[b] == slot) {
                        return start(e) + b;
                    }
                }
            }
            return -1;
        }

        void write(int what, int a, int b) {
            book.add(new int[] {clock, what, a, b});
            if (book.size() > 25) {
                book.remove(0);
            }
        }

        // ---- accesses ----

        boolean isStreamed(int position) {
            int length = 1;
            for (int i = 0; i < heads.size(); i++) {
                if (heads.get(i)[0] == position) {
                    length = heads.get(i)[1] + 1;
                    heads.remove(i);
                    break;
                }
            }
            heads.removeIf(h -> h[0] == position + 1);
            heads.add(new int[] {position + 1, length});
            if (heads.size() > 3) {
                heads.remove(0);
            }
            return length >= 4;
        }

        int access(int e, int b, boolean write, int value) {
            Ext x = ext.get(e);
            accesses++;
            if (x.fast) {
                onFast++;
            }
            if (isStreamed(start(e) + b)) {
                streamed++;
                x.streamed++;
            } else {
                x.plain++;
                x.heat = Math.min(9999, x.heat + (write ? 12 : 8));
                x.seen |= 1;
            }
            if (write && x.fast) {
                cost += 2;
                x.writes++;
                fast[x.slots[b]] = value;
                x.dirty[b] = true;
            } else if (write) {
                cost += 10;
                slow[start(e) + b] = value;
                if (moveOf(e) != null) {
                    moveOf(e).copied[b] = false;
                }
            } else if (x.fast) {
                cost += 1;
                x.reads++;
                return fast[x.slots[b]];
            } else {
                cost += 8;
                return slow[start(e) + b];
            }
            return -1;
        }

        // ---- ticks ----

        int copiesLeft;

        void tick() {
            clock++;
            copiesLeft = pace;
            for (Move m : new ArrayList<>(moves)) {
                if (copiesLeft > 0) {
                    movingOf(m);
                }
            }
            for (Move m : new ArrayList<>(moves)) {
                if (m.begun && whatIsToBeCopied(m) == 0) {
                    switchIt(m);
                }
            }
            if (clock % 4 == 0) {
                makeThePlan();
                epoch++;
                for (Ext x : ext) {
                    x.heat >>= 1;
                    x.seen = x.seen * 2 % 256;
                    x.plain = 0;
                    x.streamed = 0;
                    x.savedHeat = x.heat;
                    x.savedSeen = x.seen;
                }
            }
        }

        void movingOf(Move m) {
            Ext x = ext.get(m.extent);
            int size = SIZES[m.extent];
            if (!m.begun) {
                if (m.toFast) {
                    List<Integer> free = new ArrayList<>();
                    for (int s = 0; s < 9; s++) {
                        if (slotIsFree(s)) {
                            free.add(s);
                        }
                    }
                    if (free.size() < size) {
                        return;
                    }
                    for (int b = 0; b < size; b++) {
                        x.slots[b] = free.get(b);
                    }
                    m.copied = new boolean[4];
                }
                m.begun = true;
                write(0, m.extent, m.toFast ? 1 : 0);
            }
            for (int b = 0; b < size && copiesLeft > 0; b++) {
                if (m.toFast && !m.copied[b]) {
                    fast[x.slots[b]] = slow[start(m.extent) + b];
                    m.copied[b] = true;
                } else if (!m.toFast && x.dirty[b]) {
                    slow[start(m.extent) + b] = fast[x.slots[b]];
                    x.dirty[b] = false;
                } else {
                    continue;
                }
                copiesLeft--;
                copies++;
                cost += 9;
            }
        }

        int whatIsToBeCopied(Move m) {
            int bits = 0;
            for (int b = 0; b < SIZES[m.extent]; b++) {
                if (m.toFast ? !m.copied[b] : ext.get(m.extent).dirty[b]) {
                    bits |= 1 << b;
                }
            }
            return bits;
        }

        void switchIt(Move m) {
            Ext x = ext.get(m.extent);
            x.fast = m.toFast;
            x.dirty = new boolean[4];
            if (!m.toFast) {
                x.slots = new int[] {-1, -1, -1, -1};
            }
            x.rest = epoch + 3;
            x.switched++;
            x.reads = 0;
            x.writes = 0;
            switches++;
            moves.remove(m);
            write(1, m.extent, m.toFast ? 1 : 0);
        }

        void drop(Move m) {
            if (m.begun && m.toFast) {
                ext.get(m.extent).slots = new int[] {-1, -1, -1, -1};
            }
            moves.remove(m);
            write(2, m.extent, m.toFast ? 1 : 0);
        }

        int crash() {
            int gone = moves.size();
            int freed = 0;
            for (Move m : moves) {
                if (m.begun && m.toFast) {
                    freed += SIZES[m.extent];
                    ext.get(m.extent).slots = new int[] {-1, -1, -1, -1};
                }
            }
            moves.clear();
            heads.clear();
            for (int e = 0; e < 10; e++) {
                Ext x = ext.get(e);
                x.heat = x.savedHeat;
                x.seen = x.savedSeen;
                x.plain = 0;
                x.streamed = 0;
                for (int b = 0; b < SIZES[e] && x.fast; b++) {
                    x.dirty[b] = true;
                }
            }
            crashes++;
            write(4, gone, freed);
            return gone;
        }

        // ---- the plan ----

        /** As the plan sees it: without the moves that are not begun. */
        State asPlanned(int withBudget) {
            State s = copy();
            s.moves.removeIf(m -> !m.begun);
            s.budget = withBudget;
            return s;
        }

        boolean in(int set, int e) {
            return (set & 1 << e) != 0;
        }

        int dirtyBlocks(int e) {
            int many = 0;
            for (boolean d : ext.get(e).dirty) {
                many += d ? 1 : 0;
            }
            return many;
        }

        int copiedFor(int set) {
            int sum = 0;
            for (int e = 0; e < 10; e++) {
                if (moveOf(e) == null && !ext.get(e).fast && in(set, e)) {
                    sum += SIZES[e];
                }
                if (moveOf(e) == null && ext.get(e).fast && !in(set, e)) {
                    sum += dirtyBlocks(e);
                }
            }
            return sum;
        }

        boolean allowed(int set) {
            int sum = 0;
            for (int e = 0; e < 10; e++) {
                Ext x = ext.get(e);
                Move m = moveOf(e);
                boolean is = in(set, e);
                sum += is ? SIZES[e] : 0;
                if (m != null && is != m.toFast) {
                    return false;
                }
                if (m == null && x.rest > epoch && is != x.fast) {
                    return false;
                }
                boolean known = Integer.bitCount(x.seen) >= 2 && !(x.streamed > x.plain);
                if (is && m == null && !x.fast && x.pinned != 1 && !known) {
                    return false;
                }
            }
            return sum <= 9 && copiedFor(set) <= budget;
        }

        int worth(int set) {
            int sum = 0;
            for (int e = 0; e < 10; e++) {
                if (in(set, e)) {
                    Ext x = ext.get(e);
                    sum += x.heat;
                    if (x.fast) {
                        sum += x.heat / 4;
                    }
                    if (x.pinned == 1) {
                        sum += 100000;
                    }
                    if (x.pinned == 2) {
                        sum -= 100000;
                    }
                }
            }
            return sum - price * copiedFor(set);
        }

        List<Integer> allAllowed() {
            List<Integer> sets = new ArrayList<>();
            for (int set = 0; set < 1024; set++) {
                if (allowed(set)) {
                    sets.add(set);
                }
            }
            return sets;
        }

        int theSet() {
            return best(allAllowed());
        }

        int best(List<Integer> sets) {
            int found = -1;
            for (int set : sets) {
                if (found < 0 || worth(set) > worth(found)) {
                    found = set;
                }
            }
            return found;
        }

        List<Integer> newMoves(int set) {
            List<Integer> order = new ArrayList<>();
            for (int e = 0; e < 10; e++) {
                if (moveOf(e) == null && ext.get(e).fast && !in(set, e)) {
                    order.add(e);
                }
            }
            List<Integer> to = new ArrayList<>();
            for (int e = 0; e < 10; e++) {
                if (moveOf(e) == null && !ext.get(e).fast && in(set, e)) {
                    to.add(e);
                }
            }
            to.sort((p, q) -> ext.get(p).heat != ext.get(q).heat ? ext.get(q).heat - ext.get(p).heat : p - q);
            order.addAll(to);
            return order;
        }

        void makeThePlan() {
            for (Move m : new ArrayList<>(moves)) {
                if (!m.begun) {
                    drop(m);
                }
            }
            int set = theSet();
            List<Integer> order = newMoves(set);
            for (int e : order) {
                ask(e);
            }
            write(3, set, order.size());
        }

        void ask(int e) {
            Move m = new Move();
            m.extent = e;
            m.toFast = !ext.get(e).fast;
            moves.add(m);
        }

        /** The least heat, and the set with it; null without. */
        int[] threshold(int e) {
            State s = asPlanned(budget);
            List<Integer> sets = s.allAllowed();
            if (sets.stream().noneMatch(set -> in(set, e))) {
                return null;
            }
            s.ext.get(e).heat = 0;
            int[] cold = new int[1024];
            for (int set : sets) {
                cold[set] = s.worth(set);
            }
            for (int h = 0; h <= 9999; h++) {
                int warm = h + (ext.get(e).fast ? h / 4 : 0);
                int found = -1;
                int most = 0;
                for (int set : sets) {
                    int worth = cold[set] + (in(set, e) ? warm : 0);
                    if (found < 0 || worth > most) {
                        found = set;
                        most = worth;
                    }
                }
                if (in(found, e)) {
                    return new int[] {h, found};
                }
            }
            return null;
        }

        // ---- years ----

        void year() {
            int d = x;
            x = (x * 773 + 641) % 31139;
            int e = (d / 10 % 10) * (d / 100 % 10) / 10;
            switch (d % 10) {
                case 0: case 1: case 2: case 3:
                    access(e, d % SIZES[e], false, 0);
                    break;
                case 4: case 5:
                    access(e, d % SIZES[e], true, d % 1000);
                    break;
                case 6:
                    for (int from = d / 10 % 9, i = from; i <= from + 1; i++) {
                        for (int b = 0; b < SIZES[i]; b++) {
                            access(i, b, false, 0);
                        }
                    }
                    break;
                case 7: case 8:
                    tick();
                    break;
                default:
                    if (d / 10 % 4 == 0) {
                        crash();
                    } else {
                        tick();
                    }
            }
        }
    }

    // ---- texts ----

    static final class Fault extends Exception {
        private static final long serialVersionUID = 1L;
        final int what;
        final int place;

        Fault(int what, int place) {
            this.what = what;
            this.place = place;
        }
    }

    static final class Token {
        String says;
        int place;
    }

    /** A sum of products; each factor is a number, or -1, -2, -3 for a, b, c. */
    static final class Sum {
        final List<List<Integer>> products = new ArrayList<>();

        int value(List<Integer> rounds) {
            int sum = 0;
            for (List<Integer> product : products) {
                int value = 1;
                for (int factor : product) {
                    value = value * (factor < 0 ? rounds.get(-factor - 1) : factor) % 10000;
                }
                sum = (sum + value) % 10000;
            }
            return sum;
        }
    }

    static final class Statement {
        String word;
        int times;
        String sign;
        final List<Sum> sums = new ArrayList<>();
        List<Statement> inner = new ArrayList<>();
    }

    static final class Parser {
        final String tape;
        final List<Token> tokens = new ArrayList<>();
        int at;
        int statements;

        Parser(String tape) {
            this.tape = tape;
            java.util.regex.Matcher m =
                    java.util.regex.Pattern.compile("[a-zA-Z]+|[0-9]+|[^ \n]", java.util.regex.Pattern.DOTALL).matcher(tape);
            while (m.find()) {
                Token t = new Token();
                t.says = m.group();
                t.place = m.start();
                tokens.add(t);
            }
            Token end = new Token();
            end.says = "";
            end.place = tape.length();
            tokens.add(end);
        }

        Token look() {
            return tokens.get(at);
        }

        boolean sees(String what) {
            return look().says.equals(what);
        }

        Fault fault(int what) {
            return new Fault(what, look().place);
        }

        void need(String what) throws Fault {
            if (!sees(what)) {
                throw fault(1);
            }
            at++;
        }

        List<Statement> all() throws Fault {
            List<Statement> list = block(0, 0);
            if (!sees("")) {
                throw fault(1);
            }
            return list;
        }

        List<Statement> block(int depth, int loops) throws Fault {
            List<Statement> list = new ArrayList<>();
            while (!sees("") && !sees("}")) {
                list.add(statement(depth, loops));
            }
            return list;
        }

        @SuppressWarnings("fallthrough")
        Statement statement(int depth, int loops) throws Fault {
            Statement s = new Statement();
            s.word = look().says;
            if (!List.of("read", "write", "scan", "tick", "crash", "loop", "if").contains(s.word)) {
                throw fault(1);
            }
            boolean opens = s.word.equals("loop") || s.word.equals("if");
            if (opens && depth == 3) {
                throw fault(3);
            }
            if (++statements > 40) {
                throw fault(5);
            }
            at++;
            switch (s.word) {
                case "write":
                    s.sums.add(sum(loops));
                    need(",");
                    // falls through
                case "read":
                case "scan":
                    s.sums.add(sum(loops));
                    need(",");
                    s.sums.add(sum(loops));
                    need(";");
                    break;
                case "loop":
                    s.times = number(1, 9);
                    break;
                case "if":
                    s.sums.add(sum(loops));
                    s.sign = look().says;
                    if (!sees("<") && !sees("=")) {
                        throw fault(1);
                    }
                    at++;
                    s.sums.add(sum(loops));
                    break;
                default:
                    need(";");
                    break;
            }
            if (opens) {
                need("{");
                s.inner = block(depth + 1, s.word.equals("loop") ? loops + 1 : loops);
                need("}");
            }
            return s;
        }

        int number(int from, int to) throws Fault {
            if (!look().says.matches("[0-9]+")) {
                throw fault(1);
            }
            java.math.BigInteger n = new java.math.BigInteger(look().says);
            if (n.compareTo(java.math.BigInteger.valueOf(from)) < 0 || n.compareTo(java.math.BigInteger.valueOf(to)) > 0) {
                throw fault(2);
            }
            at++;
            return n.intValue();
        }

        Sum sum(int loops) throws Fault {
            Sum sum = new Sum();
            do {
                List<Integer> product = new ArrayList<>();
                do {
                    product.add(one(loops));
                } while (more("*"));
                sum.products.add(product);
            } while (more("+"));
            return sum;
        }

        boolean more(String sign) {
            if (sees(sign)) {
                at++;
                return true;
            }
            return false;
        }

        int one(int loops) throws Fault {
            if (sees("a") || sees("b") || sees("c")) {
                int which = look().says.charAt(0) - 'a';
                if (which >= loops) {
                    throw fault(4);
                }
                at++;
                return -1 - which;
            }
            return number(0, 9999);
        }
    }

    static final class Run {
        final State s;
        int acts;

        Run(State s) {
            this.s = s;
        }

        void play(List<Statement> list, List<Integer> rounds) {
            for (Statement t : list) {
                if (acts < 300) {
                    play(t, rounds);
                }
            }
        }

        void play(Statement t, List<Integer> rounds) {
            int[] v = new int[3];
            for (int i = 0; i < t.sums.size(); i++) {
                v[i] = t.sums.get(i).value(rounds);
            }
            switch (t.word) {
                case "read":
                    s.access(v[0] % 10, v[1] % SIZES[v[0] % 10], false, 0);
                    acts++;
                    break;
                case "write":
                    s.access(v[0] % 10, v[1] % SIZES[v[0] % 10], true, v[2] % 1000);
                    acts++;
                    break;
                case "scan":
                    for (int e = v[0] % 10; e <= v[1] % 10; e++) {
                        for (int b = 0; b < SIZES[e]; b++) {
                            if (acts < 300) {
                                s.access(e, b, false, 0);
                                acts++;
                            }
                        }
                    }
                    break;
                case "tick":
                    s.tick();
                    acts++;
                    break;
                case "crash":
                    s.crash();
                    acts++;
                    break;
                case "if":
                    if (t.sign.equals("<") ? v[0] < v[1] : v[0] == v[1]) {
                        play(t.inner, rounds);
                    }
                    break;
                default:
                    for (int i = 0; i < t.times; i++) {
                        List<Integer> deeper = new ArrayList<>(rounds);
                        deeper.add(i);
                        play(t.inner, deeper);
                    }
            }
        }
    }

    // ---- the face ----

    private State now = new State();
    private List<List<Statement>> texts = new ArrayList<>();
    private List<State> steps = new ArrayList<>();
    private String tape = "";
    private int fault = -1;
    private int faultPlace = -1;

    private State imageNow = new State();
    private List<List<Statement>> imageTexts = new ArrayList<>();
    private List<State> imageSteps = new ArrayList<>();

    private void step() {
        steps.add(now.copy());
        if (steps.size() > 30) {
            steps.remove(0);
        }
    }

    private static boolean ext(int e) {
        return 0 <= e && e <= 9;
    }

    private static boolean block(int e, int b) {
        return ext(e) && 0 <= b && b < SIZES[e];
    }

    public int feed(int a, int b, int c, int d, int e) {
        if (tape.length() + 20 > 300) {
            return -1;
        }
        for (int four : new int[] {a, b, c, d, e}) {
            for (int i = 3; i >= 0; i--) {
                tape += (char) ((four >> 8 * i) & 255);
            }
        }
        return tape.length();
    }

    public int end(int n) {
        if (n < 0 || n > tape.length()) {
            return -1;
        }
        tape = tape.substring(0, n);
        return n;
    }

    public int text() {
        if (texts.size() == 4) {
            return -1;
        }
        String was = tape;
        tape = "";
        try {
            texts.add(new Parser(was).all());
            fault = 0;
            faultPlace = -1;
            return texts.size() - 1;
        } catch (Fault f) {
            fault = f.what;
            faultPlace = f.place;
            return -1;
        }
    }

    public int fault(int what) {
        return what == 0 ? fault : what == 1 ? faultPlace : -1;
    }

    public int read(int e, int b) {
        if (!block(e, b)) {
            return -1;
        }
        step();
        return now.access(e, b, false, 0);
    }

    public int write(int e, int b, int value) {
        if (!block(e, b) || value < 0 || value > 999) {
            return -1;
        }
        step();
        now.access(e, b, true, value);
        return where(e);
    }

    public int scan(int from, int to) {
        if (!ext(from) || !ext(to) || from > to) {
            return -1;
        }
        step();
        int on = 0;
        for (int e = from; e <= to; e++) {
            for (int b = 0; b < SIZES[e]; b++) {
                on += where(e);
                now.access(e, b, false, 0);
            }
        }
        return on;
    }

    public boolean pin(int e, int how) {
        if (!ext(e) || how < 0 || how > 2 || now.ext.get(e).pinned == how) {
            return false;
        }
        step();
        now.ext.get(e).pinned = how;
        now.write(5, e, how);
        return true;
    }

    public boolean tell(int what, int n) {
        if (what == 0 && n >= 0 && n <= 6) {
            step();
            now.pace = n;
            return true;
        }
        if (what == 1 && n >= 0 && n <= 12) {
            step();
            now.budget = n;
            return true;
        }
        if (what == 2 && n >= 0 && n <= 40) {
            step();
            now.price = n;
            return true;
        }
        return false;
    }

    public int ask(int e) {
        if (!ext(e) || now.moveOf(e) != null) {
            return -1;
        }
        step();
        now.ask(e);
        return now.moves.size();
    }

    public int drop(int e) {
        if (!ext(e) || now.moveOf(e) == null) {
            return -1;
        }
        step();
        now.drop(now.moveOf(e));
        return now.moves.size();
    }

    public int day(int n) {
        if (n < 1 || n > 8) {
            return -1;
        }
        step();
        for (int i = 0; i < n; i++) {
            now.tick();
        }
        return now.clock;
    }

    public int crash() {
        step();
        return now.crash();
    }

    public int played(int text) {
        if (text < 0 || text >= texts.size()) {
            return -1;
        }
        step();
        Run run = new Run(now);
        run.play(texts.get(text), new ArrayList<>());
        return run.acts;
    }

    public int years(int seed, int n) {
        if (seed < 0 || seed > 9999 || n < 1 || n > 24) {
            return -1;
        }
        step();
        now.x = seed * 2 + 409;
        for (int i = 0; i < n; i++) {
            now.year();
        }
        return now.clock;
    }

    public int undo() {
        if (steps.isEmpty()) {
            return -1;
        }
        now = steps.remove(steps.size() - 1).copy();
        return steps.size();
    }

    public int is(int what) {
        int[] all = {now.clock, now.x, now.epoch, now.cost, now.pace, now.budget, now.price, now.accesses, now.onFast,
            now.streamed, now.copies, now.switches, now.crashes};
        return what < 0 || what > 12 ? -1 : all[what];
    }

    public int where(int e) {
        return !ext(e) ? -1 : now.ext.get(e).fast ? 1 : 0;
    }

    public int slot(int e, int b) {
        return block(e, b) && now.ext.get(e).fast ? now.ext.get(e).slots[b] : -1;
    }

    public int on(int disk, int place) {
        if (disk == 1 && place >= 0 && place < 9) {
            return now.fast[place];
        }
        return disk == 0 && place >= 0 && place < 23 ? now.slow[place] : -1;
    }

    public int holder(int slot) {
        return slot < 0 || slot > 8 ? -1 : now.holder(slot);
    }

    public int free(int slot) {
        for (int s = slot; slot >= 0 && s < 9; s++) {
            if (now.slotIsFree(s)) {
                return s;
            }
        }
        return -1;
    }

    public int position(int e, int b) {
        return block(e, b) ? start(e) + b : -1;
    }

    public int heat(int e) {
        return ext(e) ? now.ext.get(e).heat : -1;
    }

    public int of(int e, int what) {
        if (!ext(e) || what < 0 || what > 8) {
            return -1;
        }
        Ext x = now.ext.get(e);
        int dirty = 0;
        for (int b = 0; b < 4; b++) {
            dirty += x.dirty[b] ? 1 << b : 0;
        }
        return new int[] {x.seen, x.plain, x.streamed, x.rest, x.pinned, dirty, x.savedHeat, x.savedSeen, x.switched}[what];
    }

    public int head(int i, int what) {
        if (i == -1) {
            return now.heads.size();
        }
        return i < 0 || i >= now.heads.size() || what < 0 || what > 1 ? -2 : now.heads.get(i)[what];
    }

    public int move(int i, int what) {
        if (i == -1) {
            return now.moves.size();
        }
        if (i < 0 || i >= now.moves.size() || what < 0 || what > 3) {
            return -2;
        }
        Move m = now.moves.get(i);
        return new int[] {m.extent, m.toFast ? 1 : 0, m.begun ? 1 : 0, now.whatIsToBeCopied(m)}[what];
    }

    public int moveOf(int e) {
        return now.moves.indexOf(now.moveOf(e));
    }

    private State planned() {
        return now.asPlanned(now.budget);
    }

    public int plan() {
        return planned().theSet();
    }

    public int worth(int budget) {
        if (budget < 0 || budget > 12) {
            return Integer.MIN_VALUE;
        }
        State s = now.asPlanned(budget);
        return s.worth(s.theSet());
    }

    public int value(int bits) {
        return bits >= 0 && bits < 1024 && planned().allowed(bits) ? planned().worth(bits) : Integer.MIN_VALUE;
    }

    public int needs(int bits) {
        return bits >= 0 && bits < 1024 && planned().allowed(bits) ? planned().copiedFor(bits) : -1;
    }

    public int threshold(int e) {
        int[] found = ext(e) ? now.threshold(e) : null;
        return found == null ? -1 : found[0];
    }

    public int displaced(int e) {
        int[] found = ext(e) ? now.threshold(e) : null;
        return found == null ? -1 : plan() & ~found[1];
    }

    public boolean may(int e, boolean in) {
        State s = planned();
        return ext(e) && s.allAllowed().stream().anyMatch(set -> s.in(set, e) == in);
    }

    public int next(int i) {
        List<Integer> order = planned().newMoves(plan());
        return i == -1 ? order.size() : i < 0 || i >= order.size() ? -2 : order.get(i);
    }

    public int enough() {
        int budget = 0;
        while (worth(budget) != worth(12)) {
            budget++;
        }
        return budget;
    }

    public int gained(int e) {
        if (where(e) != 1) {
            return Integer.MIN_VALUE;
        }
        return 7 * now.ext.get(e).reads + 8 * now.ext.get(e).writes - 9 * SIZES[e];
    }

    private State behind(int n) {
        State s = now.copy();
        for (int i = 0; i < n; i++) {
            s.tick();
        }
        return s;
    }

    public int foretold(int n, int e) {
        return n < 1 || n > 8 || !ext(e) ? -1 : behind(n).ext.get(e).fast ? 1 : 0;
    }

    public int copies(int n) {
        return n < 1 || n > 8 ? -1 : behind(n).copies - now.copies;
    }

    public int would(int text) {
        if (text < 0 || text >= texts.size()) {
            return -1;
        }
        Run run = new Run(now.copy());
        run.play(texts.get(text), new ArrayList<>());
        return run.s.cost - now.cost;
    }

    public int cheapest() {
        int best = -1;
        for (int i = 0; i < texts.size(); i++) {
            if (best < 0 || would(i) < would(best)) {
                best = i;
            }
        }
        return best;
    }

    private List<Integer> byHeat() {
        List<Integer> order = new ArrayList<>(List.of(0, 1, 2, 3, 4, 5, 6, 7, 8, 9));
        order.sort((p, q) -> heat(q) - heat(p));
        return order;
    }

    public int rank(int i) {
        return ext(i) ? byHeat().get(i) : -1;
    }

    public int coldest(int disk) {
        List<Integer> order = byHeat();
        order.removeIf(e -> where(e) != disk);
        return order.isEmpty() ? -1 : order.get(order.size() - 1);
    }

    public int warmth(int disk) {
        int sum = 0;
        for (int e = 0; e < 10; e++) {
            sum += where(e) == disk ? heat(e) : 0;
        }
        return disk < 0 || disk > 1 ? -1 : sum;
    }

    public int cools(int e) {
        int many = 0;
        for (int h = heat(e); h > 0; h /= 2) {
            many++;
        }
        return ext(e) ? many : -1;
    }

    public int share() {
        return now.accesses == 0 ? 0 : Float.floatToRawIntBits((float) now.onFast / now.accesses);
    }

    public long mean() {
        return now.accesses == 0 ? 0 : Double.doubleToRawLongBits((double) now.cost / now.accesses);
    }

    public int book(int i, int what) {
        if (i == -1) {
            return now.book.size();
        }
        return i < 0 || i >= now.book.size() || what < 0 || what > 3 ? -2 : now.book.get(i)[what];
    }

    public int ledger(int what) {
        return what < 0 || what > 5 ? -1 : (int) now.book.stream().filter(l -> l[1] == what).count();
    }

    public int image() {
        imageNow = now.copy();
        imageTexts = new ArrayList<>(texts);
        imageSteps = new ArrayList<>(steps);
        return now.clock;
    }

    public int back() {
        now = imageNow.copy();
        texts = new ArrayList<>(imageTexts);
        steps = new ArrayList<>();
        imageSteps.forEach(s -> steps.add(s.copy()));
        return now.clock;
    }

    public int about(int what) {
        return what == 0 ? texts.size() : what == 1 ? steps.size() : what == 2 ? tape.length() : -2;
    }
}

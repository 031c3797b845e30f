/** Two disks, a fast one and a slow one, and what it costs to keep the warm extents on the fast one. */
public final class WarmExtents {
    public static final int NONE = -1;

    // What some calls answer where NONE could be an ordinary answer.
    private static final int NO_SUCH = -2;
    private static final int NO_WORTH = -2147483648;

    private static final int EXTENTS = 10;
    private static final int POSITIONS = 23;
    private static final int SLOTS = 9;
    private static final int[] SIZE = {1, 2, 3, 4, 1, 2, 3, 4, 1, 2};
    private static final int[] START = {0, 1, 3, 6, 10, 11, 13, 16, 20, 21};

    private static final int VALUES = 1000;
    private static final int MOST_HEAT = 9999;
    private static final int MOST_PACE = 6;
    private static final int MOST_BUDGET = 12;
    private static final int MOST_PRICE = 40;
    private static final int MOST_DAYS = 8;
    private static final int MOST_SEED = 9999;
    private static final int MOST_YEARS = 24;

    private static final int PINNED_FAST = 1;
    private static final int PINNED_SLOW = 2;

    // The counts of a World, by the numbers that is() has for them.
    private static final int CLOCK = 0;
    private static final int X = 1;
    private static final int EPOCH = 2;
    private static final int COST = 3;
    private static final int PACE = 4;
    private static final int BUDGET = 5;
    private static final int PRICE = 6;
    private static final int ACCESSES = 7;
    private static final int ON_FAST = 8;
    private static final int STREAMED = 9;
    private static final int COPIES = 10;
    private static final int SWITCHES = 11;
    private static final int CRASHES = 12;
    private static final int COUNTS = 13;

    // The kinds of lines in the Book.
    private static final int BEGUN = 0;
    private static final int SWITCHED = 1;
    private static final int DROPPED = 2;
    private static final int PLANNED = 3;
    private static final int CRASHED = 4;
    private static final int PINNED = 5;
    private static final int LINE_KINDS = 6;
    private static final int LINE_PARTS = 4;
    private static final int BOOK_LINES = 25;

    private static final int HEADS = 3;
    private static final int STREAM_LENGTH = 4;
    private static final int STEPS = 30;

    private static final int TEXTS = 4;
    private static final int TAPE = 300;
    private static final int FED = 20;
    private static final int STATEMENTS = 40;
    private static final int DEPTH = 3;
    private static final int ACTS = 300;
    private static final int MOST_NUMBER = 9999;
    private static final int MOST_ROUNDS = 9;
    // Three loops of nine rounds around forty statements stay far below this.
    private static final int MOST_TURNS = 1000000;

    // Kinds of tokens; { } ; , + * < = have their bytes as kinds, so that all these are below or above them.
    private static final int END = 0;
    private static final int UNKNOWN = 1;
    private static final int NUMBER = 2;
    private static final int ROUND = 3;
    private static final int READ = 4;
    private static final int WRITE = 5;
    private static final int SCAN = 6;
    private static final int TICK = 7;
    private static final int CRASH = 8;
    private static final int LOOP = 9;
    private static final int IF = 10;

    private final World now = new World();
    private final World scratch = new World();
    private final History steps = new History();
    private final Planner planner = new Planner();
    private final Player player = new Player();
    private final Reader reader = new Reader();
    private final Text[] texts = new Text[TEXTS];
    private int textCount = 0;

    private final World imageWorld = new World();
    private final History imageSteps = new History();
    // Texts only come behind those of the image, so these are always the same ones as in texts.
    private int imageTextCount = 0;

    public WarmExtents() {
    }

    // ---- texts ----

    public int feed(int a, int b, int c, int d, int e) {
        if (reader.length > TAPE - FED) {
            return NONE;
        }
        reader.append(a);
        reader.append(b);
        reader.append(c);
        reader.append(d);
        reader.append(e);
        return reader.length;
    }

    public int end(int n) {
        if (n < 0 || n > reader.length) {
            return NONE;
        }
        reader.length = n;
        return n;
    }

    public int text() {
        if (textCount >= TEXTS) {
            return NONE;
        }
        Text parsed = reader.parse();
        if (parsed == null) {
            return NONE;
        }
        texts[textCount] = parsed;
        textCount++;
        return textCount - 1;
    }

    public int fault(int what) {
        if (what == 0) {
            return reader.fault;
        }
        return what == 1 ? reader.faultPlace : NONE;
    }

    // ---- what is done by hand ----

    public int read(int extent, int block) {
        if (!isBlock(extent, block)) {
            return NONE;
        }
        steps.push(now);
        return now.readBlock(extent, block);
    }

    public int write(int extent, int block, int value) {
        if (!isBlock(extent, block) || value < 0 || value >= VALUES) {
            return NONE;
        }
        steps.push(now);
        now.writeBlock(extent, block, value);
        return now.extents.fast[extent];
    }

    public int scan(int from, int to) {
        if (!isExtent(from) || !isExtent(to) || from > to) {
            return NONE;
        }
        steps.push(now);
        int before = now.count[ON_FAST];
        now.readExtents(from, to, POSITIONS);
        return now.count[ON_FAST] - before;
    }

    public boolean pin(int extent, int how) {
        if (!isExtent(extent) || how < 0 || how > PINNED_SLOW || now.extents.pinned[extent] == how) {
            return false;
        }
        steps.push(now);
        now.extents.pinned[extent] = how;
        now.writeDown(PINNED, extent, how);
        return true;
    }

    public boolean tell(int what, int n) {
        if (what < 0 || what > 2 || n < 0 || n > mostTold(what)) {
            return false;
        }
        steps.push(now);
        now.count[PACE + what] = n;
        return true;
    }

    public int ask(int extent) {
        if (!isExtent(extent) || now.moves.find(extent) != NONE) {
            return NONE;
        }
        steps.push(now);
        now.moves.add(extent, 1 - now.extents.fast[extent]);
        return now.moves.many;
    }

    public int drop(int extent) {
        int at = now.moves.find(extent);
        if (at == NONE) {
            return NONE;
        }
        steps.push(now);
        now.dropMove(at);
        return now.moves.many;
    }

    public int day(int n) {
        if (!isDays(n)) {
            return NONE;
        }
        steps.push(now);
        now.pass(n, planner);
        return now.count[CLOCK];
    }

    public int crash() {
        steps.push(now);
        return now.loseMemory();
    }

    public int played(int text) {
        Text chosen = textAt(text);
        if (chosen == null) {
            return NONE;
        }
        steps.push(now);
        return player.play(chosen, now, planner);
    }

    public int years(int seed, int n) {
        if (seed < 0 || seed > MOST_SEED || n < 1 || n > MOST_YEARS) {
            return NONE;
        }
        steps.push(now);
        now.live(seed, n, planner);
        return now.count[CLOCK];
    }

    public int undo() {
        return steps.pop(now) ? steps.many : NONE;
    }

    // ---- what is ----

    public int is(int what) {
        return what >= 0 && what < COUNTS ? now.count[what] : NONE;
    }

    public int where(int extent) {
        return isExtent(extent) ? now.extents.fast[extent] : NONE;
    }

    public int slot(int extent, int block) {
        if (!isBlock(extent, block) || now.extents.fast[extent] == 0) {
            return NONE;
        }
        return now.disks.slotOf[START[extent] + block];
    }

    public int on(int disk, int place) {
        if (disk == 1) {
            return place >= 0 && place < SLOTS ? now.disks.fastValue[place] : NONE;
        }
        return disk == 0 && place >= 0 && place < POSITIONS ? now.disks.slowValue[place] : NONE;
    }

    public int holder(int slot) {
        return slot >= 0 && slot < SLOTS ? now.disks.holderOf[slot] : NONE;
    }

    public int free(int slot) {
        return slot >= 0 && slot < SLOTS ? now.disks.lowestFree(slot) : NONE;
    }

    public int position(int extent, int block) {
        return isBlock(extent, block) ? START[extent] + block : NONE;
    }

    public int heat(int extent) {
        return isExtent(extent) ? now.extents.heat[extent] : NONE;
    }

    public int of(int extent, int what) {
        return isExtent(extent) ? now.extents.detail(extent, what) : NONE;
    }

    public int head(int i, int what) {
        return now.heads.detail(i, what);
    }

    public int move(int i, int what) {
        Moves moves = now.moves;
        if (i == NONE) {
            return moves.many;
        }
        if (i < 0 || i >= moves.many) {
            return NO_SUCH;
        }
        return what == 3 ? now.blocksToCopy(i) : moves.detail(i, what);
    }

    public int moveOf(int extent) {
        return now.moves.find(extent);
    }

    // ---- the plan, were it made now ----

    public int plan() {
        planner.makeFor(now, now.count[BUDGET]);
        return planner.bestSet;
    }

    public int worth(int budget) {
        if (budget < 0 || budget > MOST_BUDGET) {
            return NO_WORTH;
        }
        planner.makeFor(now, budget);
        return planner.bestWorth;
    }

    public int value(int bits) {
        planner.weigh(now, now.count[BUDGET]);
        return planner.allows(bits) ? planner.worthOf(bits) : NO_WORTH;
    }

    public int needs(int bits) {
        planner.weigh(now, now.count[BUDGET]);
        return planner.allows(bits) ? planner.needOf(bits) : NONE;
    }

    public int threshold(int extent) {
        return isExtent(extent) ? planner.leastHeat(now, extent) : NONE;
    }

    public int displaced(int extent) {
        if (!isExtent(extent) || planner.leastHeat(now, extent) == NONE) {
            return NONE;
        }
        int with = planner.bestSet;
        planner.makeFor(now, now.count[BUDGET]);
        return planner.bestSet & ~with;
    }

    public boolean may(int extent, boolean in) {
        if (!isExtent(extent)) {
            return false;
        }
        planner.weigh(now, now.count[BUDGET]);
        planner.force(extent, in);
        return planner.choose();
    }

    public int next(int i) {
        planner.makeFor(now, now.count[BUDGET]);
        planner.listMoves(now.extents);
        if (i == NONE) {
            return planner.newMany;
        }
        return i >= 0 && i < planner.newMany ? planner.newMoves[i] : NO_SUCH;
    }

    public int enough() {
        planner.makeFor(now, MOST_BUDGET);
        int most = planner.bestWorth;
        for (int budget = 0; budget < MOST_BUDGET; budget++) {
            planner.makeFor(now, budget);
            if (planner.bestWorth == most) {
                return budget;
            }
        }
        return MOST_BUDGET;
    }

    public int gained(int extent) {
        if (!isExtent(extent) || now.extents.fast[extent] == 0) {
            return NO_WORTH;
        }
        return now.extents.earned[extent] - 9 * SIZE[extent];
    }

    // ---- what would be ----

    public int foretold(int n, int extent) {
        if (!isDays(n) || !isExtent(extent)) {
            return NONE;
        }
        scratch.copyFrom(now);
        scratch.pass(n, planner);
        return scratch.extents.fast[extent];
    }

    public int copies(int n) {
        if (!isDays(n)) {
            return NONE;
        }
        scratch.copyFrom(now);
        scratch.pass(n, planner);
        return scratch.count[COPIES] - now.count[COPIES];
    }

    public int would(int text) {
        Text chosen = textAt(text);
        if (chosen == null) {
            return NONE;
        }
        scratch.copyFrom(now);
        player.play(chosen, scratch, planner);
        return scratch.count[COST] - now.count[COST];
    }

    public int cheapest() {
        int best = NONE;
        int least = 0;
        for (int i = 0; i < textCount; i++) {
            Text tried = textAt(i);
            scratch.copyFrom(now);
            if (tried != null) {
                player.play(tried, scratch, planner);
            }
            if (best == NONE || scratch.count[COST] < least) {
                best = i;
                least = scratch.count[COST];
            }
        }
        return best;
    }

    // ---- heats, shares, the book ----

    public int rank(int i) {
        for (int extent = 0; extent < EXTENTS; extent++) {
            if (now.extents.hotterThan(extent) == i) {
                return extent;
            }
        }
        return NONE;
    }

    public int coldest(int disk) {
        int found = NONE;
        for (int extent = 0; extent < EXTENTS; extent++) {
            if (now.extents.fast[extent] == disk && (found == NONE || now.extents.hotter(found, extent))) {
                found = extent;
            }
        }
        return found;
    }

    public int warmth(int disk) {
        if (disk != 0 && disk != 1) {
            return NONE;
        }
        int sum = 0;
        for (int extent = 0; extent < EXTENTS; extent++) {
            sum += now.extents.fast[extent] == disk ? now.extents.heat[extent] : 0;
        }
        return sum;
    }

    public int cools(int extent) {
        if (!isExtent(extent)) {
            return NONE;
        }
        return 32 - Integer.numberOfLeadingZeros(now.extents.heat[extent]);
    }

    public int share() {
        int all = now.count[ACCESSES];
        if (all == 0) {
            return 0;
        }
        float divided = (float) now.count[ON_FAST] / (float) all;
        return (int) bitsOf(divided, 23, 127);
    }

    public long mean() {
        int all = now.count[ACCESSES];
        if (all == 0) {
            return 0;
        }
        return bitsOf((double) now.count[COST] / (double) all, 52, 1023);
    }

    public int book(int i, int what) {
        return now.book.detail(i, what);
    }

    public int ledger(int what) {
        return what >= 0 && what < LINE_KINDS ? now.book.linesOf(what) : NONE;
    }

    // ---- the image ----

    public int image() {
        imageWorld.copyFrom(now);
        imageSteps.copyFrom(steps);
        imageTextCount = textCount;
        return now.count[CLOCK];
    }

    public int back() {
        now.copyFrom(imageWorld);
        steps.copyFrom(imageSteps);
        textCount = imageTextCount;
        return now.count[CLOCK];
    }

    public int about(int what) {
        switch (what) {
            case 0:
                return textCount;
            case 1:
                return steps.many;
            case 2:
                return reader.length;
            default:
                return NO_SUCH;
        }
    }

    // ---- helpers of the face ----

    private static boolean isExtent(int extent) {
        return extent >= 0 && extent < EXTENTS;
    }

    private static boolean isBlock(int extent, int block) {
        return isExtent(extent) && block >= 0 && block < SIZE[extent];
    }

    private static boolean isDays(int n) {
        return n >= 1 && n <= MOST_DAYS;
    }

    private static int mostTold(int what) {
        switch (what) {
            case 0:
                return MOST_PACE;
            case 1:
                return MOST_BUDGET;
            default:
                return MOST_PRICE;
        }
    }

    private Text textAt(int i) {
        return i >= 0 && i < textCount ? texts[i] : null;
    }

    /**
     * The bits of a float or double of 0 or more, neither tiny nor huge. Halving and doubling are exact,
     * so the fraction that is left is just what stands in the lowest bits.
     */
    private static long bitsOf(double number, int fractionBits, int bias) {
        if (number <= 0) {
            return 0;
        }
        double rest = number;
        int power = bias;
        for (int turn = 0; turn < 64 && rest >= 2; turn++) {
            rest = rest / 2;
            power++;
        }
        for (int turn = 0; turn < 64 && rest < 1; turn++) {
            rest = rest * 2;
            power--;
        }
        long one = 1L << fractionBits;
        return power * one + (long) ((rest - 1) * (double) one);
    }

    /** What is known of each extent, a row for each thing; a number of 1 or 0 where it is a yes or no. */
    private static final class Extents {
        private final int[] fast = new int[EXTENTS];
        private final int[] pinned = new int[EXTENTS];
        private final int[] rest = new int[EXTENTS];
        private final int[] dirty = new int[EXTENTS];
        private final int[] switched = new int[EXTENTS];
        private final int[] earned = new int[EXTENTS];
        private final int[] heat = new int[EXTENTS];
        private final int[] seen = new int[EXTENTS];
        private final int[] plain = new int[EXTENTS];
        private final int[] streamed = new int[EXTENTS];
        private final int[] savedHeat = new int[EXTENTS];
        private final int[] savedSeen = new int[EXTENTS];

        private void copyFrom(Extents other) {
            System.arraycopy(other.fast, 0, fast, 0, EXTENTS);
            System.arraycopy(other.pinned, 0, pinned, 0, EXTENTS);
            System.arraycopy(other.rest, 0, rest, 0, EXTENTS);
            System.arraycopy(other.dirty, 0, dirty, 0, EXTENTS);
            System.arraycopy(other.switched, 0, switched, 0, EXTENTS);
            System.arraycopy(other.earned, 0, earned, 0, EXTENTS);
            System.arraycopy(other.heat, 0, heat, 0, EXTENTS);
            System.arraycopy(other.seen, 0, seen, 0, EXTENTS);
            System.arraycopy(other.plain, 0, plain, 0, EXTENTS);
            System.arraycopy(other.streamed, 0, streamed, 0, EXTENTS);
            System.arraycopy(other.savedHeat, 0, savedHeat, 0, EXTENTS);
            System.arraycopy(other.savedSeen, 0, savedSeen, 0, EXTENTS);
        }

        private void warm(int extent, int by) {
            heat[extent] = Math.min(MOST_HEAT, heat[extent] + by);
            seen[extent] |= 1;
            plain[extent]++;
        }

        private void age() {
            for (int extent = 0; extent < EXTENTS; extent++) {
                heat[extent] >>= 1;
                seen[extent] = (seen[extent] << 1) & 255;
                plain[extent] = 0;
                streamed[extent] = 0;
                savedHeat[extent] = heat[extent];
                savedSeen[extent] = seen[extent];
            }
        }

        /** Which blocks differ from those at home is forgotten in a crash, so all of them may. */
        private void forget() {
            for (int extent = 0; extent < EXTENTS; extent++) {
                heat[extent] = savedHeat[extent];
                seen[extent] = savedSeen[extent];
                plain[extent] = 0;
                streamed[extent] = 0;
                dirty[extent] = fast[extent] == 1 ? allBlocks(extent) : 0;
            }
        }

        private boolean hotter(int extent, int other) {
            return heat[extent] > heat[other] || heat[extent] == heat[other] && extent < other;
        }

        private int hotterThan(int extent) {
            int many = 0;
            for (int other = 0; other < EXTENTS; other++) {
                many += hotter(other, extent) ? 1 : 0;
            }
            return many;
        }

        private int detail(int extent, int what) {
            switch (what) {
                case 0:
                    return seen[extent];
                case 1:
                    return plain[extent];
                case 2:
                    return streamed[extent];
                case 3:
                    return rest[extent];
                case 4:
                    return pinned[extent];
                case 5:
                    return dirty[extent];
                case 6:
                    return savedHeat[extent];
                case 7:
                    return savedSeen[extent];
                case 8:
                    return switched[extent];
                default:
                    return NONE;
            }
        }

        private static int allBlocks(int extent) {
            return (1 << SIZE[extent]) - 1;
        }
    }

    /** What lies on the two disks, and which slot belongs to which position. */
    private static final class Disks {
        private final int[] slowValue = new int[POSITIONS];
        private final int[] fastValue = new int[SLOTS];
        private final int[] slotOf = new int[POSITIONS];
        private final int[] holderOf = new int[SLOTS];

        private Disks() {
            for (int position = 0; position < POSITIONS; position++) {
                slowValue[position] = position;
                slotOf[position] = NONE;
            }
            for (int slot = 0; slot < SLOTS; slot++) {
                holderOf[slot] = NONE;
            }
        }

        private void copyFrom(Disks other) {
            System.arraycopy(other.slowValue, 0, slowValue, 0, POSITIONS);
            System.arraycopy(other.fastValue, 0, fastValue, 0, SLOTS);
            System.arraycopy(other.slotOf, 0, slotOf, 0, POSITIONS);
            System.arraycopy(other.holderOf, 0, holderOf, 0, SLOTS);
        }

        private int lowestFree(int from) {
            for (int slot = from; slot < SLOTS; slot++) {
                if (holderOf[slot] == NONE) {
                    return slot;
                }
            }
            return NONE;
        }

        private int freeSlots() {
            int many = 0;
            for (int slot = 0; slot < SLOTS; slot++) {
                many += holderOf[slot] == NONE ? 1 : 0;
            }
            return many;
        }

        private void takeSlots(int extent) {
            int position = START[extent];
            int behind = position + SIZE[extent];
            for (int slot = 0; slot < SLOTS && position < behind; slot++) {
                if (holderOf[slot] == NONE) {
                    holderOf[slot] = position;
                    slotOf[position] = slot;
                    position++;
                }
            }
        }

        private void leaveSlots(int extent) {
            for (int position = START[extent]; position < START[extent] + SIZE[extent]; position++) {
                int slot = slotOf[position];
                if (slot >= 0 && slot < SLOTS) {
                    holderOf[slot] = NONE;
                }
                slotOf[position] = NONE;
            }
        }

        private int fastAt(int position) {
            int slot = slotOf[position];
            return slot >= 0 && slot < SLOTS ? fastValue[slot] : NONE;
        }

        private void putFast(int position, int value) {
            int slot = slotOf[position];
            if (slot >= 0 && slot < SLOTS) {
                fastValue[slot] = value;
            }
        }
    }

    /** The latest streams, the eldest first. */
    private static final class Heads {
        private int many = 0;
        private final int[] awaited = new int[HEADS];
        private final int[] length = new int[HEADS];

        private void copyFrom(Heads other) {
            many = other.many;
            System.arraycopy(other.awaited, 0, awaited, 0, HEADS);
            System.arraycopy(other.length, 0, length, 0, HEADS);
        }

        /** An access of a position comes: the length of the stream that it goes on with. */
        private int advance(int position) {
            int longer = 1;
            int kept = 0;
            for (int i = 0; i < many && i < HEADS; i++) {
                if (awaited[i] == position) {
                    longer = length[i] + 1;
                } else if (awaited[i] != position + 1) {
                    awaited[kept] = awaited[i];
                    length[kept] = length[i];
                    kept++;
                }
            }
            if (kept == HEADS) {
                kept--;
                System.arraycopy(awaited, 1, awaited, 0, kept);
                System.arraycopy(length, 1, length, 0, kept);
            }
            awaited[kept] = position + 1;
            length[kept] = longer;
            many = kept + 1;
            return longer;
        }

        private int detail(int i, int what) {
            if (i == NONE) {
                return many;
            }
            if (i < 0 || i >= many || what < 0 || what > 1) {
                return NO_SUCH;
            }
            return what == 0 ? awaited[i] : length[i];
        }
    }

    /** The moves, in order: one at most of each extent. */
    private static final class Moves {
        private int many = 0;
        private final int[] extent = new int[EXTENTS];
        private final int[] toFast = new int[EXTENTS];
        private final int[] begun = new int[EXTENTS];
        private final int[] copied = new int[EXTENTS];

        private void copyFrom(Moves other) {
            many = other.many;
            System.arraycopy(other.extent, 0, extent, 0, EXTENTS);
            System.arraycopy(other.toFast, 0, toFast, 0, EXTENTS);
            System.arraycopy(other.begun, 0, begun, 0, EXTENTS);
            System.arraycopy(other.copied, 0, copied, 0, EXTENTS);
        }

        private int find(int wanted) {
            for (int i = 0; i < many; i++) {
                if (extent[i] == wanted) {
                    return i;
                }
            }
            return NONE;
        }

        private void add(int moved, int disk) {
            if (many < EXTENTS) {
                extent[many] = moved;
                toFast[many] = disk;
                begun[many] = 0;
                copied[many] = 0;
                many++;
            }
        }

        private void remove(int at) {
            if (at >= 0 && at < many) {
                many--;
                System.arraycopy(extent, at + 1, extent, at, many - at);
                System.arraycopy(toFast, at + 1, toFast, at, many - at);
                System.arraycopy(begun, at + 1, begun, at, many - at);
                System.arraycopy(copied, at + 1, copied, at, many - at);
            }
        }

        private boolean holdsSlots(int i) {
            return begun[i] == 1 && toFast[i] == 1;
        }

        private int detail(int i, int what) {
            switch (what) {
                case 0:
                    return extent[i];
                case 1:
                    return toFast[i];
                case 2:
                    return begun[i];
                default:
                    return NO_SUCH;
            }
        }
    }

    /** The latest lines that were written down, the eldest first. */
    private static final class Book {
        private int many = 0;
        private final int[] cells = new int[BOOK_LINES * LINE_PARTS];

        private void copyFrom(Book other) {
            many = other.many;
            System.arraycopy(other.cells, 0, cells, 0, cells.length);
        }

        private void add(int clock, int kind, int first, int second) {
            if (many == BOOK_LINES) {
                many--;
                System.arraycopy(cells, LINE_PARTS, cells, 0, many * LINE_PARTS);
            }
            int at = many * LINE_PARTS;
            cells[at] = clock;
            cells[at + 1] = kind;
            cells[at + 2] = first;
            cells[at + 3] = second;
            many++;
        }

        private int detail(int i, int what) {
            if (i == NONE) {
                return many;
            }
            if (i < 0 || i >= many || what < 0 || what >= LINE_PARTS) {
                return NO_SUCH;
            }
            return cells[i * LINE_PARTS + what];
        }

        private int linesOf(int kind) {
            int found = 0;
            for (int i = 0; i < many; i++) {
                found += cells[i * LINE_PARTS + 1] == kind ? 1 : 0;
            }
            return found;
        }
    }

    /** All that a step changes and that is as before when the step is taken back. */
    private static final class World {
        private final int[] count = new int[COUNTS];
        private final Extents extents = new Extents();
        private final Disks disks = new Disks();
        private final Heads heads = new Heads();
        private final Moves moves = new Moves();
        private final Book book = new Book();

        private World() {
            count[X] = 409;
            count[PACE] = 3;
            count[BUDGET] = 6;
            count[PRICE] = 4;
        }

        private void copyFrom(World other) {
            System.arraycopy(other.count, 0, count, 0, COUNTS);
            extents.copyFrom(other.extents);
            disks.copyFrom(other.disks);
            heads.copyFrom(other.heads);
            moves.copyFrom(other.moves);
            book.copyFrom(other.book);
        }

        private void writeDown(int kind, int first, int second) {
            book.add(count[CLOCK], kind, first, second);
        }

        // ---- accesses ----

        private void note(int extent, int block, int warmth) {
            count[ACCESSES]++;
            count[ON_FAST] += extents.fast[extent];
            if (heads.advance(START[extent] + block) >= STREAM_LENGTH) {
                count[STREAMED]++;
                extents.streamed[extent]++;
            } else {
                extents.warm(extent, warmth);
            }
        }

        private int readBlock(int extent, int block) {
            int position = START[extent] + block;
            note(extent, block, 8);
            if (extents.fast[extent] == 1) {
                count[COST] += 1;
                extents.earned[extent] += 7;
                return disks.fastAt(position);
            }
            count[COST] += 8;
            return disks.slowValue[position];
        }

        private void writeBlock(int extent, int block, int value) {
            int position = START[extent] + block;
            note(extent, block, 12);
            if (extents.fast[extent] == 1) {
                count[COST] += 2;
                extents.earned[extent] += 8;
                disks.putFast(position, value);
                extents.dirty[extent] |= 1 << block;
                return;
            }
            count[COST] += 10;
            disks.slowValue[position] = value;
            int i = moves.find(extent);
            if (i != NONE) {
                moves.copied[i] &= ~(1 << block);
            }
        }

        /** Reads all blocks of some extents, but not more than are left: how many it read. */
        private int readExtents(int from, int to, int left) {
            int done = 0;
            for (int extent = from; extent <= to; extent++) {
                for (int block = 0; block < SIZE[extent] && done < left; block++) {
                    readBlock(extent, block);
                    done++;
                }
            }
            return done;
        }

        // ---- ticks ----

        private void pass(int ticks, Planner planner) {
            for (int i = 0; i < ticks; i++) {
                tick(planner);
            }
        }

        private void tick(Planner planner) {
            count[CLOCK]++;
            moveBlocks();
            switchWhole();
            if (count[CLOCK] % 4 == 0) {
                makePlan(planner);
                count[EPOCH]++;
                extents.age();
            }
        }

        private void moveBlocks() {
            int left = count[PACE];
            for (int i = 0; i < moves.many && left > 0; i++) {
                if (moves.begun[i] == 1 || begin(i)) {
                    left -= copyBlocks(i, left);
                }
            }
        }

        private boolean begin(int i) {
            int extent = moves.extent[i];
            if (moves.toFast[i] == 1) {
                if (disks.freeSlots() < SIZE[extent]) {
                    return false;
                }
                disks.takeSlots(extent);
            }
            moves.begun[i] = 1;
            writeDown(BEGUN, extent, moves.toFast[i]);
            return true;
        }

        private int copyBlocks(int i, int left) {
            int extent = moves.extent[i];
            int wanted = blocksToCopy(i);
            int done = 0;
            for (int block = 0; block < SIZE[extent] && done < left; block++) {
                if ((wanted >> block & 1) == 1) {
                    copyBlock(i, extent, block);
                    done++;
                }
            }
            count[COPIES] += done;
            count[COST] += 9 * done;
            return done;
        }

        private void copyBlock(int i, int extent, int block) {
            int position = START[extent] + block;
            if (moves.toFast[i] == 1) {
                disks.putFast(position, disks.slowValue[position]);
                moves.copied[i] |= 1 << block;
            } else {
                disks.slowValue[position] = disks.fastAt(position);
                extents.dirty[extent] &= ~(1 << block);
            }
        }

        /** Blocks that the i-th move has to copy yet (bits). */
        private int blocksToCopy(int i) {
            int extent = moves.extent[i];
            if (moves.toFast[i] == 1) {
                return Extents.allBlocks(extent) & ~moves.copied[i];
            }
            return extents.dirty[extent];
        }

        private void switchWhole() {
            int i = 0;
            for (int left = moves.many; left > 0; left--) {
                if (moves.begun[i] == 1 && blocksToCopy(i) == 0) {
                    switchOver(i);
                } else {
                    i++;
                }
            }
        }

        private void switchOver(int i) {
            int extent = moves.extent[i];
            int disk = moves.toFast[i];
            extents.fast[extent] = disk;
            extents.dirty[extent] = 0;
            extents.rest[extent] = count[EPOCH] + 3;
            extents.switched[extent]++;
            extents.earned[extent] = 0;
            if (disk == 0) {
                disks.leaveSlots(extent);
            }
            moves.remove(i);
            count[SWITCHES]++;
            writeDown(SWITCHED, extent, disk);
        }

        // ---- plans, drops and crashes ----

        private void makePlan(Planner planner) {
            int i = 0;
            for (int left = moves.many; left > 0; left--) {
                if (moves.begun[i] == 1) {
                    i++;
                } else {
                    dropMove(i);
                }
            }
            planner.makeFor(this, count[BUDGET]);
            planner.listMoves(extents);
            for (int fresh = 0; fresh < planner.newMany; fresh++) {
                int extent = planner.newMoves[fresh];
                moves.add(extent, 1 - extents.fast[extent]);
            }
            writeDown(PLANNED, planner.bestSet, planner.newMany);
        }

        private void dropMove(int i) {
            int extent = moves.extent[i];
            int disk = moves.toFast[i];
            if (moves.holdsSlots(i)) {
                disks.leaveSlots(extent);
            }
            moves.remove(i);
            writeDown(DROPPED, extent, disk);
        }

        /** A crash: how many moves are gone by it. */
        private int loseMemory() {
            int gone = moves.many;
            int freed = 0;
            for (int i = 0; i < moves.many; i++) {
                if (moves.holdsSlots(i)) {
                    disks.leaveSlots(moves.extent[i]);
                    freed += SIZE[moves.extent[i]];
                }
            }
            moves.many = 0;
            heads.many = 0;
            extents.forget();
            count[CRASHES]++;
            writeDown(CRASHED, gone, freed);
            return gone;
        }

        // ---- years ----

        private void live(int seed, int draws, Planner planner) {
            count[X] = seed * 2 + 409;
            for (int i = 0; i < draws; i++) {
                int x = count[X];
                count[X] = (x * 773 + 641) % 31139;
                happen(x, planner);
            }
        }

        private void happen(int x, Planner planner) {
            int tenth = x / 10;
            int extent = tenth % 10 * (x / 100 % 10) / 10;
            int block = x % SIZE[extent];
            int kind = x % 10;
            if (kind <= 3) {
                readBlock(extent, block);
            } else if (kind <= 5) {
                writeBlock(extent, block, x % VALUES);
            } else if (kind == 6) {
                readExtents(tenth % 9, tenth % 9 + 1, POSITIONS);
            } else if (kind == 9 && tenth % 4 == 0) {
                loseMemory();
            } else {
                tick(planner);
            }
        }
    }

    /** Finds the set of most worth that is allowed. Moves that are not begun are regarded as dropped. */
    private static final class Planner {
        private final boolean[] mayBeIn = new boolean[EXTENTS];
        private final boolean[] mayBeOut = new boolean[EXTENTS];
        private final boolean[] bound = new boolean[EXTENTS];
        private final int[] worthIn = new int[EXTENTS];
        private final int[] worthOut = new int[EXTENTS];
        private final int[] needIn = new int[EXTENTS];
        private final int[] needOut = new int[EXTENTS];
        private int room = 0;
        private boolean found = false;
        private int bestSet = 0;
        private int bestWorth = 0;
        private final int[] newMoves = new int[EXTENTS];
        private int newMany = 0;

        private void makeFor(World world, int budget) {
            weigh(world, budget);
            choose();
        }

        private void weigh(World world, int budget) {
            room = budget;
            bind(world.moves);
            Extents extents = world.extents;
            for (int extent = 0; extent < EXTENTS; extent++) {
                boolean fast = extents.fast[extent] == 1;
                boolean rests = extents.rest[extent] > world.count[EPOCH];
                if (bound[extent]) {
                    needIn[extent] = 0;
                    needOut[extent] = 0;
                } else {
                    mayBeIn[extent] = fast || !rests && isWanted(extents, extent);
                    mayBeOut[extent] = !fast || !rests;
                    needIn[extent] = fast ? 0 : SIZE[extent];
                    needOut[extent] = Integer.bitCount(extents.dirty[extent]);
                }
                worthIn[extent] = heatWorth(extents.heat[extent], fast) + pinWorth(extents.pinned[extent])
                        - world.count[PRICE] * needIn[extent];
                worthOut[extent] = -world.count[PRICE] * needOut[extent];
            }
        }

        /** A move that is begun settles where its extent shall be. */
        private void bind(Moves moves) {
            for (int extent = 0; extent < EXTENTS; extent++) {
                bound[extent] = false;
            }
            for (int i = 0; i < moves.many; i++) {
                if (moves.begun[i] == 1) {
                    int extent = moves.extent[i];
                    bound[extent] = true;
                    mayBeIn[extent] = moves.toFast[i] == 1;
                    mayBeOut[extent] = moves.toFast[i] == 0;
                }
            }
        }

        private static boolean isWanted(Extents extents, int extent) {
            return extents.pinned[extent] == PINNED_FAST
                    || Integer.bitCount(extents.seen[extent]) >= 2 && extents.streamed[extent] <= extents.plain[extent];
        }

        private static int heatWorth(int heat, boolean fast) {
            return fast ? heat + heat / 4 : heat;
        }

        private static int pinWorth(int pinned) {
            if (pinned == PINNED_FAST) {
                return 100000;
            }
            return pinned == PINNED_SLOW ? -100000 : 0;
        }

        /** Only sets with this extent in it (or only those without) are regarded from now on. */
        private void force(int extent, boolean in) {
            if (in) {
                mayBeOut[extent] = false;
            } else {
                mayBeIn[extent] = false;
            }
        }

        /** Whether any set is allowed; then the best one is told by bestSet and bestWorth. */
        private boolean choose() {
            found = false;
            bestSet = 0;
            bestWorth = NO_WORTH;
            search(this, EXTENTS - 1, SLOTS, room, 0, 0);
            return found;
        }

        /** Leaving out ahead of taking in, from the highest bit on, comes to the sets by their numbers. */
        private static void search(Planner planner, int extent, int slots, int copies, int worth, int set) {
            if (extent < 0) {
                if (!planner.found || worth > planner.bestWorth) {
                    planner.found = true;
                    planner.bestSet = set;
                    planner.bestWorth = worth;
                }
                return;
            }
            int left = copies - planner.needOut[extent];
            if (planner.mayBeOut[extent] && left >= 0) {
                search(planner, extent - 1, slots, left, worth + planner.worthOut[extent], set);
            }
            left = copies - planner.needIn[extent];
            int free = slots - SIZE[extent];
            if (planner.mayBeIn[extent] && left >= 0 && free >= 0) {
                search(planner, extent - 1, free, left, worth + planner.worthIn[extent], set | 1 << extent);
            }
        }

        private static boolean isIn(int set, int extent) {
            return (set >> extent & 1) == 1;
        }

        private boolean allows(int set) {
            if (set < 0 || set >= 1 << EXTENTS) {
                return false;
            }
            int slots = 0;
            for (int extent = 0; extent < EXTENTS; extent++) {
                boolean in = isIn(set, extent);
                if (in ? !mayBeIn[extent] : !mayBeOut[extent]) {
                    return false;
                }
                slots += in ? SIZE[extent] : 0;
            }
            return slots <= SLOTS && needOf(set) <= room;
        }

        private int needOf(int set) {
            int sum = 0;
            for (int extent = 0; extent < EXTENTS; extent++) {
                sum += isIn(set, extent) ? needIn[extent] : needOut[extent];
            }
            return sum;
        }

        private int worthOf(int set) {
            int sum = 0;
            for (int extent = 0; extent < EXTENTS; extent++) {
                sum += isIn(set, extent) ? worthIn[extent] : worthOut[extent];
            }
            return sum;
        }

        /** The extents that the best set moves: those to the slow disk, then the others, the hottest first. */
        private void listMoves(Extents extents) {
            newMany = 0;
            for (int extent = 0; extent < EXTENTS; extent++) {
                if (!bound[extent] && extents.fast[extent] == 1 && !isIn(bestSet, extent)) {
                    newMoves[newMany] = extent;
                    newMany++;
                }
            }
            int first = newMany;
            for (int extent = 0; extent < EXTENTS; extent++) {
                if (!bound[extent] && extents.fast[extent] == 0 && isIn(bestSet, extent)) {
                    int at = newMany;
                    for (; at > first && extents.hotter(extent, newMoves[at - 1]); at--) {
                        newMoves[at] = newMoves[at - 1];
                    }
                    newMoves[at] = extent;
                    newMany++;
                }
            }
        }

        /**
         * The least heat with which an extent would be in the set, or NONE; bestSet is that set then. The heat
         * warms all sets with the extent alike, so only the best of them and the best of the others can win.
         */
        private int leastHeat(World world, int extent) {
            weigh(world, world.count[BUDGET]);
            force(extent, false);
            boolean hasRival = choose();
            int rivalSet = bestSet;
            int rivalWorth = bestWorth;
            weigh(world, world.count[BUDGET]);
            force(extent, true);
            if (!choose()) {
                return NONE;
            }
            if (!hasRival) {
                return 0;
            }
            boolean fast = world.extents.fast[extent] == 1;
            int coldWorth = bestWorth - heatWorth(world.extents.heat[extent], fast);
            int wanted = rivalWorth - coldWorth + (bestSet < rivalSet ? 0 : 1);
            return leastHeatOfWorth(wanted, fast);
        }

        private static int leastHeatOfWorth(int wanted, boolean fast) {
            int low = 0;
            int high = MOST_HEAT + 1;
            for (int turn = 0; turn < 32 && low < high; turn++) {
                int middle = (low + high) / 2;
                if (heatWorth(middle, fast) >= wanted) {
                    high = middle;
                } else {
                    low = middle + 1;
                }
            }
            return low > MOST_HEAT ? NONE : low;
        }
    }

    /** A text without a fault: its tokens. At a { or a } the value is where the one is that it belongs to. */
    private static final class Text {
        private final int many;
        private final int[] kinds;
        private final int[] values;

        private Text(int[] kinds, int[] values, int many) {
            this.many = many;
            this.kinds = new int[many];
            this.values = new int[many];
            System.arraycopy(kinds, 0, this.kinds, 0, many);
            System.arraycopy(values, 0, this.values, 0, many);
        }

        private int kindAt(int i) {
            return i >= 0 && i < many ? kinds[i] : END;
        }

        private int valueAt(int i) {
            return i >= 0 && i < many ? values[i] : 0;
        }
    }

    /** The tape, and how it is made a text. */
    private static final class Reader {
        private final int[] tape = new int[TAPE];
        private int length = 0;
        private int fault = NONE;
        private int faultPlace = NONE;

        // The tokens of the tape, and END behind them.
        private final int[] kinds = new int[TAPE + 1];
        private final int[] values = new int[TAPE + 1];
        private final int[] places = new int[TAPE + 1];
        private int many = 0;

        private int at = 0;
        private int statements = 0;
        private int depth = 0;
        private final int[] openedAt = new int[DEPTH];
        private int loops = 0;
        private final int[] loopDepth = new int[DEPTH];

        private void append(int four) {
            for (int shift = 24; shift >= 0 && length < TAPE; shift -= 8) {
                tape[length] = four >>> shift & 255;
                length++;
            }
        }

        /** The text on the tape, which is empty then; null if it has a fault. */
        private Text parse() {
            listTokens();
            fault = 0;
            faultPlace = NONE;
            at = 0;
            statements = 0;
            depth = 0;
            loops = 0;
            for (int turn = 0; turn < many && fault == 0 && kinds[at] != END; turn++) {
                if (kinds[at] == '}' && depth > 0) {
                    close();
                } else {
                    statement();
                }
            }
            if (depth > 0) {
                blame(1);
            }
            length = 0;
            return fault == 0 ? new Text(kinds, values, many - 1) : null;
        }

        // ---- tokens ----

        private void listTokens() {
            many = 0;
            int from = 0;
            for (int turn = 0; turn < TAPE && from < length; turn++) {
                int first = tape[from];
                int behind = from + 1;
                if (isLetter(first)) {
                    behind = behindLetters(from);
                    addWord(from, behind);
                } else if (isDigit(first)) {
                    behind = behindDigits(from);
                    addToken(NUMBER, numberFrom(from, behind), from);
                } else if (first != ' ' && first != '\n') {
                    addToken(isSign(first) ? first : UNKNOWN, 0, from);
                }
                from = behind;
            }
            addToken(END, 0, length);
        }

        private void addToken(int kind, int value, int place) {
            if (many < kinds.length) {
                kinds[many] = kind;
                values[many] = value;
                places[many] = place;
                many++;
            }
        }

        private static boolean isLetter(int sign) {
            return sign >= 'a' && sign <= 'z' || sign >= 'A' && sign <= 'Z';
        }

        private static boolean isDigit(int sign) {
            return sign >= '0' && sign <= '9';
        }

        private static boolean isSign(int sign) {
            switch (sign) {
                case '{':
                case '}':
                case ';':
                case ',':
                case '+':
                case '*':
                case '<':
                case '=':
                    return true;
                default:
                    return false;
            }
        }

        private int behindLetters(int from) {
            int behind = from;
            while (behind < length && isLetter(tape[behind])) {
                behind++;
            }
            return behind;
        }

        private int behindDigits(int from) {
            int behind = from;
            while (behind < length && isDigit(tape[behind])) {
                behind++;
            }
            return behind;
        }

        /** A number that is too great stays so, however many digits follow. */
        private int numberFrom(int from, int behind) {
            int number = 0;
            for (int i = from; i < behind; i++) {
                number = Math.min(MOST_NUMBER + 1, number * 10 + tape[i] - '0');
            }
            return number;
        }

        private void addWord(int from, int behind) {
            int round = tape[from] - 'a';
            if (behind - from == 1 && round >= 0 && round < DEPTH) {
                addToken(ROUND, round, from);
            } else {
                addToken(wordKind(from, behind), 0, from);
            }
        }

        private int wordKind(int from, int behind) {
            if (spells("read", from, behind)) {
                return READ;
            }
            if (spells("write", from, behind)) {
                return WRITE;
            }
            if (spells("scan", from, behind)) {
                return SCAN;
            }
            if (spells("tick", from, behind)) {
                return TICK;
            }
            if (spells("crash", from, behind)) {
                return CRASH;
            }
            if (spells("loop", from, behind)) {
                return LOOP;
            }
            return spells("if", from, behind) ? IF : UNKNOWN;
        }

        private boolean spells(String word, int from, int behind) {
            if (word.length() != behind - from) {
                return false;
            }
            for (int i = 0; i < word.length(); i++) {
                if (word.charAt(i) != tape[from + i]) {
                    return false;
                }
            }
            return true;
        }

        // ---- what may stand where; behind a fault nothing is taken any more ----

        private void blame(int what) {
            if (fault == 0) {
                fault = what;
                faultPlace = places[at];
            }
        }

        private void take(int kind) {
            if (fault == 0 && kinds[at] == kind) {
                at++;
            } else {
                blame(1);
            }
        }

        private void statement() {
            int word = kinds[at];
            if (word < READ || word > IF) {
                blame(1);
                return;
            }
            if ((word == LOOP || word == IF) && depth == DEPTH) {
                blame(3);
                return;
            }
            if (statements == STATEMENTS) {
                blame(5);
                return;
            }
            statements++;
            at++;
            behindWord(word);
        }

        private void behindWord(int word) {
            switch (word) {
                case READ:
                case SCAN:
                    sums(2);
                    take(';');
                    break;
                case WRITE:
                    sums(3);
                    take(';');
                    break;
                case LOOP:
                    times();
                    open(true);
                    break;
                case IF:
                    sum();
                    take(kinds[at] == '<' ? '<' : '=');
                    sum();
                    open(false);
                    break;
                default:
                    take(';');
                    break;
            }
        }

        private void times() {
            if (kinds[at] == NUMBER && (values[at] < 1 || values[at] > MOST_ROUNDS)) {
                blame(2);
            }
            take(NUMBER);
        }

        private void open(boolean loop) {
            int brace = at;
            take('{');
            if (fault == 0 && depth < DEPTH) {
                openedAt[depth] = brace;
                if (loop) {
                    loopDepth[loops] = depth;
                    loops++;
                }
                depth++;
            }
        }

        private void close() {
            depth--;
            if (loops > 0 && loopDepth[loops - 1] == depth) {
                loops--;
            }
            values[at] = openedAt[depth];
            values[openedAt[depth]] = at;
            at++;
        }

        private void sums(int wanted) {
            sum();
            for (int i = 1; i < wanted; i++) {
                take(',');
                sum();
            }
        }

        /** Which of + and * binds more matters to the player alone. */
        private void sum() {
            factor();
            for (int turn = 0; turn < many && (kinds[at] == '+' || kinds[at] == '*') && fault == 0; turn++) {
                at++;
                factor();
            }
        }

        private void factor() {
            if (fault != 0) {
                return;
            }
            if (kinds[at] == NUMBER && values[at] > MOST_NUMBER) {
                blame(2);
            } else if (kinds[at] == ROUND && values[at] >= loops) {
                blame(4);
            } else if (kinds[at] == ROUND) {
                // The player knows its loops by their depth, ifs counted.
                values[at] = loopDepth[values[at]];
                at++;
            } else if (kinds[at] == NUMBER) {
                at++;
            } else {
                blame(1);
            }
        }
    }

    /** Plays a text on a world. An if that is gone into is a loop of one round to it. */
    private static final class Player {
        private Text script = null;
        private World world = null;
        private Planner planner = null;
        private int at = 0;
        private int acts = 0;
        private int depth = 0;
        private final int[] rounds = new int[DEPTH];
        private final int[] times = new int[DEPTH];

        /** How many acts it did. */
        private int play(Text played, World on, Planner with) {
            script = played;
            world = on;
            planner = with;
            at = 0;
            acts = 0;
            depth = 0;
            for (int turn = 0; turn < MOST_TURNS && acts < ACTS && at < script.many; turn++) {
                statement();
            }
            return acts;
        }

        private void statement() {
            int word = script.kindAt(at);
            at++;
            switch (word) {
                case READ:
                    readOne();
                    break;
                case WRITE:
                    writeOne();
                    break;
                case SCAN:
                    scanSome();
                    break;
                case TICK:
                    world.tick(planner);
                    acts++;
                    at++;
                    break;
                case CRASH:
                    world.loseMemory();
                    acts++;
                    at++;
                    break;
                case LOOP:
                    enter(script.valueAt(at));
                    at += 2;
                    break;
                case IF:
                    enterIf();
                    break;
                default:
                    leave();
                    break;
            }
        }

        private void readOne() {
            int extent = sum() % EXTENTS;
            int block = sum() % SIZE[extent];
            world.readBlock(extent, block);
            acts++;
        }

        private void writeOne() {
            int extent = sum() % EXTENTS;
            int block = sum() % SIZE[extent];
            world.writeBlock(extent, block, sum() % VALUES);
            acts++;
        }

        private void scanSome() {
            int from = sum() % EXTENTS;
            int to = sum() % EXTENTS;
            acts += world.readExtents(from, to, ACTS - acts);
        }

        private void enter(int rounded) {
            if (depth < DEPTH) {
                rounds[depth] = 0;
                times[depth] = rounded;
                depth++;
            }
        }

        private void enterIf() {
            int left = sum();
            int sign = script.kindAt(at - 1);
            int right = sum();
            if (sign == '<' ? left < right : left == right) {
                enter(1);
            } else {
                at = script.valueAt(at - 1) + 1;
            }
        }

        /** Behind a }: to the next round, or on. */
        private void leave() {
            if (depth == 0) {
                return;
            }
            int inner = depth - 1;
            rounds[inner]++;
            if (rounds[inner] < times[inner]) {
                at = script.valueAt(at - 1) + 1;
            } else {
                depth = inner;
            }
        }

        /** A sum, and past the one token behind it. */
        private int sum() {
            int answer = product();
            for (int turn = 0; turn < TAPE && script.kindAt(at) == '+'; turn++) {
                at++;
                answer = (answer + product()) % (MOST_NUMBER + 1);
            }
            at++;
            return answer;
        }

        private int product() {
            int answer = factor();
            for (int turn = 0; turn < TAPE && script.kindAt(at) == '*'; turn++) {
                at++;
                answer = answer * factor() % (MOST_NUMBER + 1);
            }
            return answer;
        }

        private int factor() {
            int answer = script.valueAt(at);
            if (script.kindAt(at) == ROUND) {
                answer = answer >= 0 && answer < DEPTH ? rounds[answer] : 0;
            }
            at++;
            return answer;
        }
    }

    /** The worlds ahead of the latest steps, the eldest of them at first. */
    private static final class History {
        private final World[] rows = new World[STEPS];
        private int first = 0;
        private int many = 0;

        private History() {
            for (int i = 0; i < STEPS; i++) {
                rows[i] = new World();
            }
        }

        private void copyFrom(History other) {
            many = other.many;
            first = 0;
            for (int i = 0; i < many; i++) {
                rows[i].copyFrom(other.rows[(other.first + i) % STEPS]);
            }
        }

        private void push(World world) {
            rows[(first + many) % STEPS].copyFrom(world);
            if (many < STEPS) {
                many++;
            } else {
                first = (first + 1) % STEPS;
            }
        }

        private boolean pop(World world) {
            if (many == 0) {
                return false;
            }
            many--;
            world.copyFrom(rows[(first + many) % STEPS]);
            return true;
        }
    }
}

import java.util.Arrays;

/** Allocator that meshes pages: sparse pages whose live slots do not clash share one frame. */
public final class MeshedPages {
    public static final int NONE = -1;

    private static final int NO_SUCH = -2;
    private static final int PAGE_COUNT = 12;
    private static final int SLOT_COUNT = 16;
    private static final int ADDRESS_COUNT = 192;
    private static final int ALL_SLOTS = 65535;
    private static final int VALUE_COUNT = 1000;
    private static final int LAST_DAY = 9999;
    private static final int MOST_DAYS = 60;
    private static final int MOST_YEARS = 40;
    private static final int LAST_SEED = 9999;
    private static final int FIRST_DRAW = 503;
    private static final int SPARSE_SLOTS = 8;
    private static final int BOOK_LINES = 25;
    private static final int STEP_COUNT = 30;
    private static final int TEXT_COUNT = 4;
    private static final int TAPE_BYTES = 300;
    private static final int FED_BYTES = 20;
    private static final int SAID_COUNT = 8;

    private static final int OPENED = 0;
    private static final int CLOSED = 1;
    private static final int MESHED = 2;
    private static final int FENCED = 3;
    private static final int LIFTED = 4;
    private static final int LINE_KINDS = 5;

    private static final int MESHABLE = 0;
    private static final int ONE_IS_NEW = 1;
    private static final int LIKE_FRAMES = 2;
    private static final int ONE_IS_FENCED = 3;
    private static final int SLOTS_CLASH = 4;
    private static final int LAW_FORBIDS = 5;

    /** The least number that all numbers of ways to choose some of sixteen slots divide. */
    private static final long COMMON_WAYS = 720720L;

    private static final int CLAUSE_COUNT = 24;
    private static final int LAST_NUMBER = 9999;
    private static final int WORTH_LIMIT = 1000000;
    private static final int MOST_OPEN = 8;
    private static final int MOST_PROBES = 12;
    private static final int MESHES_WITHOUT = 1;
    private static final int PROBES_WITHOUT = 3;
    /** Each of nine levels holds five values that wait at the most. */
    private static final int STACK_SIZE = 64;

    private static final int CANT_STAND = 1;
    private static final int NO_SUCH_NUMBER = 2;
    private static final int TOO_DEEP = 3;
    private static final int SECOND_LAW = 4;
    private static final int OTHER_NAME = 5;
    private static final int TOO_MANY_CLAUSES = 6;

    /** A word's place here is the number of its kind below. */
    private static final String WORDS = "meshes probes give free write mesh compact day at with live place if then else end or and not time pages frames one other sparse ";
    private static final int MESHES = 0;
    private static final int PROBES = 1;
    private static final int GIVE = 2;
    private static final int FREE = 3;
    private static final int WRITE = 4;
    private static final int MESH = 5;
    private static final int COMPACT = 6;
    private static final int DAY = 7;
    private static final int AT = 8;
    private static final int WITH = 9;
    private static final int LIVE = 10;
    private static final int PLACE = 11;
    private static final int IF = 12;
    private static final int THEN = 13;
    private static final int ELSE = 14;
    private static final int END = 15;
    private static final int OR = 16;
    private static final int AND = 17;
    private static final int NOT = 18;
    private static final int NAME_TIME = 19;
    private static final int NAME_PAGES = 20;
    private static final int NAME_FRAMES = 21;
    private static final int NAME_ONE = 22;
    private static final int NAME_OTHER = 23;
    private static final int NAME_SPARSE = 24;

    private static final int LESS = 25;
    private static final int LESS_OR_LIKE = 26;
    private static final int MORE = 27;
    private static final int MORE_OR_LIKE = 28;
    private static final int LIKE = 29;
    private static final int UNLIKE = 30;
    private static final int PLUS = 31;
    private static final int MINUS = 32;
    private static final int TIMES = 33;
    private static final int BY = 34;
    private static final int ROUND_OPENS = 35;
    private static final int ROUND_CLOSES = 36;
    private static final int SEMICOLON = 37;
    private static final int NUMBER = 38;
    private static final int END_OF_TEXT = 39;
    private static final int NO_TOKEN = 40;

    /** Kinds that stand in code alone, beside those of tokens. */
    private static final int NEGATE = 41;
    private static final int JUMP = 42;
    private static final int JUMP_UNLESS = 43;

    private final Reader reader = new Reader();
    private final Text[] texts = new Text[TEXT_COUNT];
    private final Text lawless = new Text();
    private final Whole now = new Whole();
    private final Whole kept = new Whole();
    private final Pages trial = new Pages();
    private final Pairs pairs = new Pairs();
    private final Cover cover = new Cover();

    public MeshedPages() {
        for (int i = 0; i < TEXT_COUNT; i++) {
            texts[i] = new Text();
        }
    }

    public int feed(int a, int b, int c, int d, int e) {
        if (reader.size + FED_BYTES > TAPE_BYTES) {
            return NONE;
        }
        reader.takeFour(a);
        reader.takeFour(b);
        reader.takeFour(c);
        reader.takeFour(d);
        reader.takeFour(e);
        return reader.size;
    }

    public int end(int n) {
        if (n < 0 || n > reader.size) {
            return NONE;
        }
        reader.size = n;
        return n;
    }

    public int text() {
        int number = now.texts;
        if (number < 0 || number >= TEXT_COUNT) {
            return NONE;
        }
        reader.readInto(texts[number]);
        reader.size = 0;
        if (reader.fault != 0) {
            return NONE;
        }
        now.texts = number + 1;
        return number;
    }

    public int fault(int what) {
        switch (what) {
            case 0: return reader.fault;
            case 1: return reader.place;
            default: return NONE;
        }
    }

    public boolean by(int text) {
        if (text != NONE && !isText(text)) {
            return false;
        }
        now.ruling = text;
        return true;
    }

    public int give(int value) {
        if (!isValue(value) || !now.pages.hasRoom()) {
            return NONE;
        }
        now.steps.keep(now.pages);
        return now.pages.giveOut(value);
    }

    public int free(int address) {
        if (!now.pages.isReachable(address)) {
            return NONE;
        }
        now.steps.keep(now.pages);
        return now.pages.freeAt(address);
    }

    public boolean write(int address, int value) {
        if (!isValue(value) || !now.pages.isReachable(address)) {
            return false;
        }
        now.steps.keep(now.pages);
        now.pages.putAt(address, value);
        return true;
    }

    public int mesh(int a, int b) {
        if (now.pages.hindrance(a, b, ruling()) != MESHABLE) {
            return NONE;
        }
        now.steps.keep(now.pages);
        return now.pages.meshPages(a, b);
    }

    public int fence(int a, int b) {
        if (now.pages.goes != NONE || now.pages.hindrance(a, b, ruling()) != MESHABLE) {
            return NONE;
        }
        now.steps.keep(now.pages);
        return now.pages.fencePages(a, b);
    }

    public int move() {
        if (now.pages.goes == NONE) {
            return NONE;
        }
        now.steps.keep(now.pages);
        return now.pages.moveOne();
    }

    public boolean lift() {
        if (now.pages.goes == NONE) {
            return false;
        }
        now.steps.keep(now.pages);
        now.pages.liftFence();
        return true;
    }

    public int compact() {
        now.steps.keep(now.pages);
        return now.pages.compactBy(ruling());
    }

    public int day(int n) {
        if (n < 1 || n > MOST_DAYS || now.pages.day + n > LAST_DAY) {
            return NONE;
        }
        return passDays(n);
    }

    /** The clauses call one another no deeper than by hand, so that the calls stay few at once. */
    public int played(int text) {
        if (!isText(text)) {
            return NO_SUCH;
        }
        Text script = texts[text];
        for (int i = 0; i < script.clauses && i < CLAUSE_COUNT; i++) {
            int first = script.firsts[i];
            int second = script.seconds[i];
            boolean done = true;
            switch (script.kinds[i]) {
                case GIVE: done = give(first) != NONE; break;
                case FREE: done = free(first) != NONE; break;
                case WRITE: done = write(second, first); break;
                case MESH: done = mesh(first, second) != NONE; break;
                case COMPACT: compact(); break;
                case DAY:
                    done = now.pages.day + first <= LAST_DAY;
                    passDays(first);
                    break;
                default: break;
            }
            if (!done) {
                return i;
            }
        }
        return NONE;
    }

    public int years(int seed, int n) {
        if (seed < 0 || seed > LAST_SEED || n < 1 || n > MOST_YEARS) {
            return NONE;
        }
        now.steps.keep(now.pages);
        now.pages.x = seed * 2 + FIRST_DRAW;
        for (int i = 0; i < n && now.pages.day < LAST_DAY; i++) {
            now.pages.passDay(ruling());
        }
        return now.pages.day;
    }

    public int undo() {
        if (now.steps.count == 0) {
            return NONE;
        }
        now.steps.takeBack(now.pages);
        return now.steps.count;
    }

    public int at(int address) {
        return now.pages.isLive(address) ? now.pages.valueAt(address) : NONE;
    }

    public int page(int page, int what) {
        if (!isPage(page)) {
            return NO_SUCH;
        }
        switch (what) {
            case 0: return now.pages.frameOf[page];
            case 1: return now.pages.live[page];
            case 2: return Integer.bitCount(now.pages.live[page]);
            case 3: return now.pages.isFenced(page) ? 1 : 0;
            case 4: return now.pages.slotToGive(page);
            default: return NO_SUCH;
        }
    }

    public int vector(int page, int i) {
        if (!now.pages.isOpen(page) || i < 0 || i >= SLOT_COUNT) {
            return NONE;
        }
        return now.pages.vectors[page * SLOT_COUNT + i];
    }

    public int frame(int frame, int what) {
        if (!isPage(frame)) {
            return NO_SUCH;
        }
        switch (what) {
            case 0: return now.pages.pagesIn(frame);
            case 1: return now.pages.liveIn(frame);
            default: return NO_SUCH;
        }
    }

    public int is(int what) {
        switch (what) {
            case 0: return now.pages.day;
            case 1: return now.pages.x;
            case 2: return Integer.bitCount(now.pages.framesUsed());
            case 3: return now.pages.liveTotal();
            case 4: return now.pages.meshed;
            case 5: return now.pages.openPages();
            default: return NO_SUCH;
        }
    }

    public int book(int i, int what) {
        if (i == NONE) {
            return now.pages.lines;
        }
        if (i < 0 || i >= now.pages.lines || i >= BOOK_LINES) {
            return NO_SUCH;
        }
        int line = now.pages.book[i];
        switch (what) {
            case 0: return line >> 12;
            case 1: return line >> 8 & 15;
            case 2: return line >> 4 & 15;
            case 3: return line & 15;
            default: return NO_SUCH;
        }
    }

    public int foretold(int n, int what) {
        if (n < 1 || n > MOST_DAYS || what < 0 || what > 2) {
            return NONE;
        }
        trial.copyFrom(now.pages);
        for (int i = 0; i < n && trial.day < LAST_DAY; i++) {
            trial.passDay(ruling());
        }
        switch (what) {
            case 0: return Integer.bitCount(trial.framesUsed());
            case 1: return trial.liveTotal();
            default: return trial.meshed;
        }
    }

    public int clash(int a, int b) {
        if (!now.pages.isOpen(a) || !now.pages.isOpen(b)) {
            return NONE;
        }
        return now.pages.liveIn(now.pages.frameOf[a]) & now.pages.liveIn(now.pages.frameOf[b]);
    }

    public int can(int a, int b) {
        return now.pages.hindrance(a, b, ruling());
    }

    public long odds(int a, int b, boolean low) {
        if (a < 0 || a > SLOT_COUNT || b < 0 || b > SLOT_COUNT) {
            return NONE;
        }
        return lowestTerm(waysToChoose(SLOT_COUNT - a, b), waysToChoose(SLOT_COUNT, b), low);
    }

    public long expected(boolean low) {
        long ways = 0;
        int used = now.pages.framesUsed();
        for (int f = 0; f < PAGE_COUNT; f++) {
            for (int g = f + 1; g < PAGE_COUNT; g++) {
                if ((used >> f & 1) == 1 && (used >> g & 1) == 1) {
                    ways += commonWays(now.pages.liveIn(f), now.pages.liveIn(g));
                }
            }
        }
        return lowestTerm(ways, COMMON_WAYS, low);
    }

    public int most() {
        pairs.countOf(now.pages);
        return pairs.mostPairs();
    }

    public int mate(int frame) {
        if (!isPage(frame)) {
            return NONE;
        }
        pairs.countOf(now.pages);
        return pairs.mateOf(frame);
    }

    public int fewest() {
        return cover.fewestFor(now.pages);
    }

    public int would() {
        trial.copyFrom(now.pages);
        return trial.compactBy(ruling());
    }

    public int sparse() {
        return now.pages.sparseFrames();
    }

    public int runs(int page) {
        if (!now.pages.isOpen(page)) {
            return NONE;
        }
        int live = now.pages.live[page];
        return Integer.bitCount(live & ~(live << 1));
    }

    public int longest(int page) {
        if (!now.pages.isOpen(page)) {
            return NONE;
        }
        int longest = 0;
        int run = 0;
        for (int slot = 0; slot < SLOT_COUNT; slot++) {
            run = (now.pages.live[page] >> slot & 1) == 1 ? run + 1 : 0;
            longest = Math.max(longest, run);
        }
        return longest;
    }

    public int find(int page, int pattern, int n) {
        if (!now.pages.isOpen(page) || n < 1 || n > SLOT_COUNT || pattern < 0 || pattern >= 1 << n) {
            return NONE;
        }
        int bits = (1 << n) - 1;
        for (int slot = 0; slot + n <= SLOT_COUNT; slot++) {
            if ((now.pages.live[page] >> slot & bits) == pattern) {
                return slot;
            }
        }
        return NONE;
    }

    public int same(int a, int b) {
        if (!now.pages.isOpen(a) || !now.pages.isOpen(b)) {
            return NONE;
        }
        return SLOT_COUNT - Integer.bitCount(now.pages.live[a] ^ now.pages.live[b]);
    }

    public int sum(int page) {
        if (!now.pages.isOpen(page)) {
            return NONE;
        }
        int together = 0;
        for (int slot = 0; slot < SLOT_COUNT; slot++) {
            int address = page * SLOT_COUNT + slot;
            if (now.pages.isLive(address)) {
                together += now.pages.valueAt(address);
            }
        }
        return together;
    }

    public int holds(int value) {
        if (!isValue(value)) {
            return NONE;
        }
        for (int address = 0; address < ADDRESS_COUNT; address++) {
            if (now.pages.isLive(address) && now.pages.valueAt(address) == value) {
                return address;
            }
        }
        return NONE;
    }

    public int fullest() {
        int fullest = NONE;
        int most = 0;
        for (int page = 0; page < PAGE_COUNT; page++) {
            int slots = Integer.bitCount(now.pages.live[page]);
            if (slots > most) {
                most = slots;
                fullest = page;
            }
        }
        return fullest;
    }

    public boolean sound() {
        return now.pages.isSound();
    }

    public int probes() {
        return ruling().probesIn(now.pages);
    }

    public boolean meshes(int a, int b) {
        if (!now.pages.isOpen(a) || !now.pages.isOpen(b)) {
            return false;
        }
        int one = Integer.bitCount(now.pages.liveIn(now.pages.frameOf[a]));
        int other = Integer.bitCount(now.pages.liveIn(now.pages.frameOf[b]));
        return ruling().worth(MESHES, now.pages, one, other) > 0;
    }

    public int said(int one, int other, int lets) {
        if (one == NONE) {
            now.saids = 0;
            return 0;
        }
        if (one < 0 || one > SLOT_COUNT || other < 0 || other > SLOT_COUNT || lets < 0 || lets > 1) {
            return NO_SUCH;
        }
        if (now.saids < 0 || now.saids >= SAID_COUNT) {
            return NO_SUCH;
        }
        now.said[now.saids] = one << 8 | other << 1 | lets;
        now.saids++;
        return now.saids;
    }

    public int whose() {
        int whose = 0;
        for (int i = 0; i < now.texts && i < TEXT_COUNT; i++) {
            if (saysAll(texts[i])) {
                whose |= 1 << i;
            }
        }
        return whose;
    }

    public int ledger(int what) {
        if (what < 0 || what >= LINE_KINDS) {
            return NO_SUCH;
        }
        int count = 0;
        for (int i = 0; i < now.pages.lines && i < BOOK_LINES; i++) {
            if ((now.pages.book[i] >> 8 & 15) == what) {
                count++;
            }
        }
        return count;
    }

    public int image() {
        kept.copyFrom(now);
        return now.pages.day;
    }

    public int back() {
        now.copyFrom(kept);
        return now.pages.day;
    }

    public int about(int what) {
        switch (what) {
            case 0: return now.texts;
            case 1: return now.ruling;
            case 2: return now.steps.count;
            case 3: return now.saids;
            case 4: return reader.size;
            case 5: return now.pages.goes;
            case 6: return now.pages.slotsToMove();
            default: return NO_SUCH;
        }
    }

    private boolean isText(int text) {
        return text >= 0 && text < now.texts && text < TEXT_COUNT;
    }

    private Text ruling() {
        return isText(now.ruling) ? texts[now.ruling] : lawless;
    }

    /** Lets n days pass, or those that can, each a step: how many things were done. */
    private int passDays(int n) {
        int done = 0;
        for (int i = 0; i < n && now.pages.day < LAST_DAY; i++) {
            now.steps.keep(now.pages);
            if (now.pages.passDay(ruling())) {
                done++;
            }
        }
        return done;
    }

    private boolean saysAll(Text text) {
        for (int i = 0; i < now.saids && i < SAID_COUNT; i++) {
            int told = now.said[i];
            boolean lets = text.worth(MESHES, now.pages, told >> 8, told >> 1 & 127) > 0;
            if (lets != ((told & 1) == 1)) {
                return false;
            }
        }
        return true;
    }

    private static boolean isPage(int page) {
        return page >= 0 && page < PAGE_COUNT;
    }

    private static boolean isValue(int value) {
        return value >= 0 && value < VALUE_COUNT;
    }

    private static long waysToChoose(int from, int some) {
        if (some > from) {
            return 0;
        }
        long ways = 1;
        for (int i = 0; i < some; i++) {
            ways = ways * (from - i) / (i + 1);
        }
        return ways;
    }

    /** Odds of two frames' slots by a divisor that all odds have in common, so that sums are exact. */
    private static long commonWays(int oneLive, int otherLive) {
        int one = Integer.bitCount(oneLive);
        int other = Integer.bitCount(otherLive);
        long all = waysToChoose(SLOT_COUNT, other);
        return all == 0 ? 0 : waysToChoose(SLOT_COUNT - one, other) * (COMMON_WAYS / all);
    }

    private static long lowestTerm(long upper, long lower, boolean low) {
        long a = lower;
        long b = upper;
        // Each two rounds halve the rest: a hundred are more than a long can need.
        for (int round = 0; round < 100 && b != 0; round++) {
            long rest = a % b;
            a = b;
            b = rest;
        }
        if (a == 0) {
            return 0;
        }
        return (low ? lower : upper) / a;
    }

    /** All of part I but the steps. */
    private static final class Pages {
        int day = 0;
        int x = FIRST_DRAW;
        int meshed = 0;
        int goes = NONE;
        int stays = NONE;
        int moved = 0;
        int lines = 0;
        final int[] frameOf = new int[PAGE_COUNT];
        final int[] live = new int[PAGE_COUNT];
        final int[] vectors = new int[ADDRESS_COUNT];
        final int[] values = new int[ADDRESS_COUNT];
        final int[] book = new int[BOOK_LINES];
        /** Used again by every compaction; nothing of it is kept. */
        final int[] row = new int[PAGE_COUNT];

        Pages() {
            Arrays.fill(frameOf, NONE);
        }

        void copyFrom(Pages from) {
            day = from.day;
            x = from.x;
            meshed = from.meshed;
            goes = from.goes;
            stays = from.stays;
            moved = from.moved;
            lines = from.lines;
            System.arraycopy(from.frameOf, 0, frameOf, 0, PAGE_COUNT);
            System.arraycopy(from.live, 0, live, 0, PAGE_COUNT);
            System.arraycopy(from.vectors, 0, vectors, 0, ADDRESS_COUNT);
            System.arraycopy(from.values, 0, values, 0, ADDRESS_COUNT);
            System.arraycopy(from.book, 0, book, 0, BOOK_LINES);
        }

        boolean isOpen(int page) {
            return page >= 0 && page < PAGE_COUNT && frameOf[page] != NONE;
        }

        boolean isFenced(int page) {
            return isOpen(page) && frameOf[page] == goes;
        }

        boolean isLive(int address) {
            return address >= 0 && address < ADDRESS_COUNT
                && (live[address / SLOT_COUNT] >> address % SLOT_COUNT & 1) == 1;
        }

        /** Whether an address can be freed and written: live, and not behind the fence. */
        boolean isReachable(int address) {
            return isLive(address) && !isFenced(address / SLOT_COUNT);
        }

        /** Where the value of an address stands in its frame; NONE without a frame. */
        private int cellOf(int address) {
            if (address < 0 || address >= ADDRESS_COUNT || !isOpen(address / SLOT_COUNT)) {
                return NONE;
            }
            return frameOf[address / SLOT_COUNT] * SLOT_COUNT + address % SLOT_COUNT;
        }

        int valueAt(int address) {
            int cell = cellOf(address);
            return cell < 0 ? NONE : values[cell];
        }

        void putAt(int address, int value) {
            int cell = cellOf(address);
            if (cell >= 0) {
                values[cell] = value;
            }
        }

        int pagesIn(int frame) {
            int bits = 0;
            for (int page = 0; page < PAGE_COUNT; page++) {
                if (frame != NONE && frameOf[page] == frame) {
                    bits |= 1 << page;
                }
            }
            return bits;
        }

        int lowestPageIn(int frame) {
            for (int page = 0; page < PAGE_COUNT; page++) {
                if (frameOf[page] == frame) {
                    return page;
                }
            }
            return NONE;
        }

        int liveIn(int frame) {
            int bits = 0;
            for (int page = 0; page < PAGE_COUNT; page++) {
                if (frame != NONE && frameOf[page] == frame) {
                    bits |= live[page];
                }
            }
            return bits;
        }

        int framesUsed() {
            int bits = 0;
            for (int page = 0; page < PAGE_COUNT; page++) {
                if (frameOf[page] != NONE) {
                    bits |= 1 << frameOf[page];
                }
            }
            return bits;
        }

        int openPages() {
            int bits = 0;
            for (int page = 0; page < PAGE_COUNT; page++) {
                if (frameOf[page] != NONE) {
                    bits |= 1 << page;
                }
            }
            return bits;
        }

        int liveTotal() {
            int total = 0;
            for (int page = 0; page < PAGE_COUNT; page++) {
                total += Integer.bitCount(live[page]);
            }
            return total;
        }

        int sparseFrames() {
            int bits = 0;
            for (int frame = 0; frame < PAGE_COUNT; frame++) {
                int slots = Integer.bitCount(liveIn(frame));
                // A frame with pages has a live slot: pages without any are closed.
                if (slots > 0 && slots <= SPARSE_SLOTS && frame != goes && frame != stays) {
                    bits |= 1 << frame;
                }
            }
            return bits;
        }

        int drawBelow(int bound) {
            if (bound < 1) {
                return 0;
            }
            int drawn = x % bound;
            x = (x * 769 + 631) % 31123;
            return drawn;
        }

        private void writeDown(int kind, int page, int frame) {
            if (lines >= BOOK_LINES) {
                System.arraycopy(book, 1, book, 0, BOOK_LINES - 1);
                lines = BOOK_LINES - 1;
            }
            book[lines] = day << 12 | kind << 8 | page << 4 | frame;
            lines++;
        }

        int slotToGive(int page) {
            if (!isOpen(page) || isFenced(page)) {
                return NONE;
            }
            int taken = liveIn(frameOf[page]);
            if (frameOf[page] == stays) {
                taken |= liveIn(goes);
            }
            for (int i = 0; i < SLOT_COUNT; i++) {
                int slot = vectors[page * SLOT_COUNT + i];
                if ((taken >> slot & 1) == 0) {
                    return slot;
                }
            }
            return NONE;
        }

        private int lowestGivingPage() {
            for (int page = 0; page < PAGE_COUNT; page++) {
                if (slotToGive(page) != NONE) {
                    return page;
                }
            }
            return NONE;
        }

        private int lowestNewPage() {
            for (int page = 0; page < PAGE_COUNT; page++) {
                if (!isOpen(page)) {
                    return page;
                }
            }
            return NONE;
        }

        /** With a page that is new there is a frame without pages, too: frames are as many. */
        boolean hasRoom() {
            return lowestGivingPage() != NONE || lowestNewPage() != NONE;
        }

        private int lowestFreeFrame() {
            int used = framesUsed();
            for (int frame = 0; frame < PAGE_COUNT; frame++) {
                if ((used >> frame & 1) == 0) {
                    return frame;
                }
            }
            return NONE;
        }

        private int openPage() {
            int page = lowestNewPage();
            int frame = lowestFreeFrame();
            if (page == NONE || frame == NONE) {
                return NONE;
            }
            frameOf[page] = frame;
            int base = page * SLOT_COUNT;
            for (int i = 0; i < SLOT_COUNT; i++) {
                vectors[base + i] = i;
            }
            for (int k = SLOT_COUNT - 1; k >= 1; k--) {
                int other = base + drawBelow(k + 1);
                int slot = vectors[base + k];
                vectors[base + k] = vectors[other];
                vectors[other] = slot;
            }
            writeDown(OPENED, page, frame);
            return page;
        }

        int giveOut(int value) {
            int page = lowestGivingPage();
            if (page == NONE) {
                page = openPage();
            }
            int slot = slotToGive(page);
            if (page == NONE || slot == NONE) {
                return NONE;
            }
            live[page] |= 1 << slot;
            int address = page * SLOT_COUNT + slot;
            putAt(address, value);
            return address;
        }

        int freeAt(int address) {
            if (!isReachable(address)) {
                return NONE;
            }
            int value = valueAt(address);
            int page = address / SLOT_COUNT;
            live[page] &= ~(1 << address % SLOT_COUNT);
            if (live[page] == 0) {
                writeDown(CLOSED, page, frameOf[page]);
                frameOf[page] = NONE;
            }
            return value;
        }

        /** Whether a frame goes or stays behind the fence. */
        private boolean isInFence(int frame) {
            return goes != NONE && (frame == goes || frame == stays);
        }

        int hindrance(int a, int b, Text law) {
            if (!isPage(a) || !isPage(b)) {
                return NONE;
            }
            if (!isOpen(a) || !isOpen(b)) {
                return ONE_IS_NEW;
            }
            if (frameOf[a] == frameOf[b]) {
                return LIKE_FRAMES;
            }
            if (isInFence(frameOf[a]) || isInFence(frameOf[b])) {
                return ONE_IS_FENCED;
            }
            int one = liveIn(frameOf[a]);
            int other = liveIn(frameOf[b]);
            if ((one & other) != 0) {
                return SLOTS_CLASH;
            }
            boolean lets = law.worth(MESHES, this, Integer.bitCount(one), Integer.bitCount(other)) > 0;
            return lets ? MESHABLE : LAW_FORBIDS;
        }

        /** Whether the second page's frame is the one that goes: it has no more live slots. */
        private boolean secondGoes(int a, int b) {
            return Integer.bitCount(liveIn(frameOf[b])) <= Integer.bitCount(liveIn(frameOf[a]));
        }

        int meshPages(int a, int b) {
            if (!isOpen(a) || !isOpen(b)) {
                return NONE;
            }
            boolean second = secondGoes(a, b);
            int from = second ? frameOf[b] : frameOf[a];
            int to = second ? frameOf[a] : frameOf[b];
            int slots = liveIn(from);
            for (int slot = 0; slot < SLOT_COUNT; slot++) {
                if ((slots >> slot & 1) == 1) {
                    copySlot(from, to, slot);
                }
            }
            joinFrames(from, to);
            return Integer.bitCount(slots);
        }

        private void copySlot(int from, int to, int slot) {
            if (isPage(from) && isPage(to)) {
                values[to * SLOT_COUNT + slot] = values[from * SLOT_COUNT + slot];
            }
        }

        private void joinFrames(int from, int to) {
            for (int page = 0; page < PAGE_COUNT; page++) {
                if (frameOf[page] == from) {
                    frameOf[page] = to;
                }
            }
            meshed++;
            writeDown(MESHED, to, from);
        }

        int fencePages(int a, int b) {
            if (!isOpen(a) || !isOpen(b)) {
                return NONE;
            }
            boolean second = secondGoes(a, b);
            goes = second ? frameOf[b] : frameOf[a];
            stays = second ? frameOf[a] : frameOf[b];
            writeDown(FENCED, goes, stays);
            return slotsToMove();
        }

        int slotsToMove() {
            return Integer.bitCount(liveIn(goes) & ~moved);
        }

        int moveOne() {
            int waiting = liveIn(goes) & ~moved;
            for (int slot = 0; slot < SLOT_COUNT; slot++) {
                if ((waiting >> slot & 1) == 1) {
                    copySlot(goes, stays, slot);
                    moved |= 1 << slot;
                    break;
                }
            }
            int left = slotsToMove();
            if (left == 0) {
                joinFrames(goes, stays);
                dropFence();
            }
            return left;
        }

        void liftFence() {
            writeDown(LIFTED, goes, stays);
            dropFence();
        }

        private void dropFence() {
            goes = NONE;
            stays = NONE;
            moved = 0;
        }

        /** Puts the sparse frames into the row in drawn order: how many they are. */
        private int drawSparse() {
            int sparse = sparseFrames();
            int count = 0;
            for (int frame = 0; frame < PAGE_COUNT; frame++) {
                if ((sparse >> frame & 1) == 1) {
                    row[count] = frame;
                    count++;
                }
            }
            for (int k = count - 1; k >= 1; k--) {
                int other = drawBelow(k + 1);
                int frame = row[k];
                row[k] = row[other];
                row[other] = frame;
            }
            return count;
        }

        int compactBy(Text law) {
            int probes = law.probesIn(this);
            int half = drawSparse() / 2;
            int done = 0;
            int count = 0;
            for (int i = 0; i < probes; i++) {
                for (int j = 0; j < half; j++) {
                    int left = row[j];
                    int right = row[half + (j + i) % half];
                    int both = 1 << left | 1 << right;
                    int a = lowestPageIn(left);
                    int b = lowestPageIn(right);
                    if ((done & both) == 0 && hindrance(a, b, law) == MESHABLE) {
                        meshPages(a, b);
                        done |= both;
                        count++;
                    }
                }
            }
            return count;
        }

        private boolean freeDrawn() {
            int total = liveTotal();
            if (total == 0) {
                return false;
            }
            int ahead = drawBelow(total);
            for (int address = 0; address < ADDRESS_COUNT; address++) {
                if (isLive(address)) {
                    if (ahead == 0) {
                        return freeAt(address) != NONE;
                    }
                    ahead--;
                }
            }
            return false;
        }

        /** A day, which must be able to pass: whether something was done in it. */
        boolean passDay(Text law) {
            int lot = drawBelow(8);
            boolean done = true;
            if (lot <= 3) {
                done = giveOut(drawBelow(VALUE_COUNT)) != NONE;
            } else if (lot <= 6) {
                done = freeDrawn();
            } else {
                compactBy(law);
            }
            day++;
            return done;
        }

        private boolean isVectorWhole(int page) {
            int seen = 0;
            for (int i = 0; i < SLOT_COUNT; i++) {
                seen |= 1 << vectors[page * SLOT_COUNT + i];
            }
            return seen == ALL_SLOTS;
        }

        boolean isSound() {
            for (int a = 0; a < PAGE_COUNT; a++) {
                if (isOpen(a) && (live[a] == 0 || !isVectorWhole(a))) {
                    return false;
                }
                for (int b = a + 1; b < PAGE_COUNT; b++) {
                    if (isOpen(a) && frameOf[a] == frameOf[b] && (live[a] & live[b]) != 0) {
                        return false;
                    }
                }
            }
            return true;
        }
    }

    /** The latest steps: all of part I as it was ahead of each, in a ring. */
    private static final class Steps {
        final Pages[] ahead = new Pages[STEP_COUNT];
        int first = 0;
        int count = 0;

        Steps() {
            for (int i = 0; i < STEP_COUNT; i++) {
                ahead[i] = new Pages();
            }
        }

        private Pages stepAt(int i) {
            return ahead[(first + i) % STEP_COUNT];
        }

        void keep(Pages pages) {
            if (count < STEP_COUNT) {
                count++;
            } else {
                first = (first + 1) % STEP_COUNT;
            }
            stepAt(count - 1).copyFrom(pages);
        }

        void takeBack(Pages pages) {
            if (count > 0) {
                count--;
                pages.copyFrom(stepAt(count));
            }
        }

        void copyFrom(Steps from) {
            first = 0;
            count = from.count;
            for (int i = 0; i < count && i < STEP_COUNT; i++) {
                ahead[i].copyFrom(from.stepAt(i));
            }
        }
    }

    /** All but the tape and the latest fault. Texts are only added, so their number tells them. */
    private static final class Whole {
        final Pages pages = new Pages();
        final Steps steps = new Steps();
        final int[] said = new int[SAID_COUNT];
        int saids = 0;
        int texts = 0;
        int ruling = NONE;

        void copyFrom(Whole from) {
            pages.copyFrom(from.pages);
            steps.copyFrom(from.steps);
            System.arraycopy(from.said, 0, said, 0, SAID_COUNT);
            saids = from.saids;
            texts = from.texts;
            ruling = from.ruling;
        }
    }

    /** A text that was read: its clauses, and its laws as code for a stack. */
    private static final class Text {
        int clauses = 0;
        final int[] kinds = new int[CLAUSE_COUNT];
        final int[] firsts = new int[CLAUSE_COUNT];
        final int[] seconds = new int[CLAUSE_COUNT];
        /** Of meshes and of probes: where its code starts and ends; without the law both are one. */
        final int[] starts = new int[2];
        final int[] ends = new int[2];
        int length = 0;
        final int[] codes = new int[TAPE_BYTES];
        final int[] numbers = new int[TAPE_BYTES];
        /** Used again by every asking: the names' worths in the order of their kinds, and what waits. */
        final int[] names = new int[NAME_SPARSE - NAME_TIME + 1];
        final int[] stack = new int[STACK_SIZE];

        void clear() {
            clauses = 0;
            length = 0;
            Arrays.fill(starts, 0);
            Arrays.fill(ends, 0);
        }

        boolean hasLaw(int law) {
            return isLaw(law) && starts[law] < ends[law];
        }

        static boolean isLaw(int kind) {
            return kind == MESHES || kind == PROBES;
        }

        void startLaw(int law) {
            if (isLaw(law)) {
                starts[law] = length;
            }
        }

        void endLaw(int law) {
            if (isLaw(law)) {
                ends[law] = length;
            }
        }

        void addClause(int kind, int first, int second) {
            if (clauses < CLAUSE_COUNT) {
                kinds[clauses] = kind;
                firsts[clauses] = first;
                seconds[clauses] = second;
                clauses++;
            }
        }

        /** Adds one code: its place. Each token makes one at the most, so there is room for all. */
        int addCode(int code, int number) {
            if (length >= TAPE_BYTES) {
                return NONE;
            }
            codes[length] = code;
            numbers[length] = number;
            length++;
            return length - 1;
        }

        void jumpHereFrom(int place) {
            if (place >= 0 && place < TAPE_BYTES) {
                numbers[place] = length;
            }
        }

        int probesIn(Pages pages) {
            return Math.max(0, Math.min(MOST_PROBES, worth(PROBES, pages, 0, 0)));
        }

        /** What a law says now, or is without. Jumps go on alone, so that no code is come to twice. */
        int worth(int law, Pages pages, int one, int other) {
            if (!hasLaw(law)) {
                return law == PROBES ? PROBES_WITHOUT : MESHES_WITHOUT;
            }
            names[NAME_TIME - NAME_TIME] = pages.day;
            names[NAME_PAGES - NAME_TIME] = Integer.bitCount(pages.openPages());
            names[NAME_FRAMES - NAME_TIME] = Integer.bitCount(pages.framesUsed());
            names[NAME_ONE - NAME_TIME] = one;
            names[NAME_OTHER - NAME_TIME] = other;
            names[NAME_SPARSE - NAME_TIME] = law == PROBES ? Integer.bitCount(pages.sparseFrames()) : 0;
            int top = 0;
            int next = starts[law];
            for (int step = 0; step < TAPE_BYTES && next >= 0 && next < ends[law] && next < TAPE_BYTES; step++) {
                int code = codes[next];
                int number = numbers[next];
                next++;
                switch (code) {
                    case JUMP:
                        next = number;
                        break;
                    case JUMP_UNLESS:
                        top = Math.max(0, top - 1);
                        next = stack[top] == 0 ? number : next;
                        break;
                    case NOT: case LIVE: case PLACE: case NEGATE:
                        if (top >= 1) {
                            stack[top - 1] = turned(code, stack[top - 1], pages);
                        }
                        break;
                    default:
                        if (isPushed(code) && top < STACK_SIZE) {
                            stack[top] = code == NUMBER ? number : names[code - NAME_TIME];
                            top++;
                        } else if (top >= 2) {
                            top--;
                            stack[top - 1] = limited(joined(code, stack[top - 1], stack[top]));
                        }
                        break;
                }
            }
            return stack[0];
        }

        private static boolean isPushed(int code) {
            return code == NUMBER || code >= NAME_TIME && code <= NAME_SPARSE;
        }

        private static int turned(int code, int worth, Pages pages) {
            boolean page = worth >= 0 && worth < PAGE_COUNT;
            switch (code) {
                case NOT: return worth == 0 ? 1 : 0;
                case NEGATE: return -worth;
                case LIVE: return page ? Integer.bitCount(pages.live[worth]) : 0;
                case PLACE: return page ? pages.frameOf[worth] + 1 : 0;
                default: return worth;
            }
        }

        private static long joined(int code, int a, int b) {
            switch (code) {
                case PLUS: return (long) a + b;
                case MINUS: return (long) a - b;
                case TIMES: return (long) a * b;
                case BY: return b == 0 ? 0 : a / b;
                case OR: return a | b;
                case AND: return a & b;
                case LESS: return a < b ? 1 : 0;
                case LESS_OR_LIKE: return a <= b ? 1 : 0;
                case MORE: return a > b ? 1 : 0;
                case MORE_OR_LIKE: return a >= b ? 1 : 0;
                case LIKE: return a == b ? 1 : 0;
                case UNLIKE: return a != b ? 1 : 0;
                default: return 0;
            }
        }

        private static int limited(long worth) {
            return (int) Math.max(-WORTH_LIMIT, Math.min(WORTH_LIMIT, worth));
        }
    }

    /** The tape, and what reads it: first all its tokens, then the clauses that they make. */
    private static final class Reader {
        final int[] tape = new int[TAPE_BYTES];
        int size = 0;
        int fault = NONE;
        int place = NONE;
        private final int[] kinds = new int[TAPE_BYTES];
        private final int[] numbers = new int[TAPE_BYTES];
        private final int[] places = new int[TAPE_BYTES];
        private int count = 0;
        /** The token that is come to. */
        private int at = 0;
        private int law = NONE;
        private Text text = new Text();

        void takeFour(int bytes) {
            for (int shift = 24; shift >= 0; shift -= 8) {
                if (size < TAPE_BYTES) {
                    tape[size] = bytes >>> shift & 255;
                    size++;
                }
            }
        }

        void readInto(Text empty) {
            text = empty;
            text.clear();
            fault = 0;
            place = NONE;
            scan();
            at = 0;
            for (int i = 0; i < TAPE_BYTES && kind() != END_OF_TEXT; i++) {
                readClause();
            }
        }

        private void scan() {
            count = 0;
            for (int i = 0; i < size; i++) {
                if (tape[i] != 32 && tape[i] != 10) {
                    i = Math.max(i, scanToken(i));
                }
            }
        }

        private void addToken(int kind, int number, int from) {
            if (count < TAPE_BYTES) {
                kinds[count] = kind;
                numbers[count] = number;
                places[count] = from;
                count++;
            }
        }

        /** Adds the token that starts there: the place of its last byte. */
        private int scanToken(int from) {
            int first = tape[from];
            if (isLetter(first)) {
                int to = endOfWord(from);
                addToken(wordKind(from, to), 0, from);
                return to - 1;
            }
            if (isDigit(first)) {
                return scanNumber(from);
            }
            boolean withLike = from + 1 < size && tape[from + 1] == '=';
            if (withLike && first == '<') {
                addToken(LESS_OR_LIKE, 0, from);
                return from + 1;
            }
            if (withLike && first == '>') {
                addToken(MORE_OR_LIKE, 0, from);
                return from + 1;
            }
            addToken(signKind(first), 0, from);
            return from;
        }

        private int scanNumber(int from) {
            int number = 0;
            int to = from;
            while (to < size && isDigit(tape[to])) {
                number = Math.min(LAST_NUMBER + 1, number * 10 + tape[to] - '0');
                to++;
            }
            addToken(NUMBER, number, from);
            return to - 1;
        }

        private int endOfWord(int from) {
            int to = from;
            while (to < size && isLetter(tape[to])) {
                to++;
            }
            return to;
        }

        private static boolean isLetter(int sign) {
            return sign >= 'a' && sign <= 'z' || sign >= 'A' && sign <= 'Z';
        }

        private static boolean isDigit(int sign) {
            return sign >= '0' && sign <= '9';
        }

        private int wordKind(int from, int to) {
            int kind = 0;
            int start = 0;
            for (int i = 0; i < WORDS.length(); i++) {
                if (WORDS.charAt(i) == ' ') {
                    if (i - start == to - from && spells(from, to, start)) {
                        return kind;
                    }
                    kind++;
                    start = i + 1;
                }
            }
            return NO_TOKEN;
        }

        private boolean spells(int from, int to, int start) {
            for (int i = from; i < to; i++) {
                int sign = start + i - from;
                if (sign >= WORDS.length() || WORDS.charAt(sign) != tape[i]) {
                    return false;
                }
            }
            return true;
        }

        private static int signKind(int sign) {
            switch (sign) {
                case '<': return LESS;
                case '>': return MORE;
                case '=': return LIKE;
                case '#': return UNLIKE;
                case '+': return PLUS;
                case '-': return MINUS;
                case '*': return TIMES;
                case '/': return BY;
                case '(': return ROUND_OPENS;
                case ')': return ROUND_CLOSES;
                case ';': return SEMICOLON;
                default: return NO_TOKEN;
            }
        }

        /** The kind of the token that is come to; behind the last there is the end alone. */
        private int kind() {
            return at >= 0 && at < count ? kinds[at] : END_OF_TEXT;
        }

        /** The first fault stands; going to the end lets all that reads come back. */
        private void fail(int kind) {
            if (fault == 0) {
                fault = kind;
                place = at >= 0 && at < count ? places[at] : size;
            }
            at = count;
        }

        private void take(int kind) {
            if (kind() == kind) {
                at++;
            } else {
                fail(CANT_STAND);
            }
        }

        private void readClause() {
            int kind = kind();
            if (kind > DAY) {
                fail(CANT_STAND);
                return;
            }
            if (text.hasLaw(kind)) {
                fail(SECOND_LAW);
                return;
            }
            if (text.clauses >= CLAUSE_COUNT) {
                fail(TOO_MANY_CLAUSES);
                return;
            }
            at++;
            int first = 0;
            int second = 0;
            switch (kind) {
                case GIVE: first = readNumber(0, VALUE_COUNT - 1); break;
                case FREE: first = readNumber(0, ADDRESS_COUNT - 1); break;
                case WRITE:
                    first = readNumber(0, VALUE_COUNT - 1);
                    take(AT);
                    second = readNumber(0, ADDRESS_COUNT - 1);
                    break;
                case MESH:
                    first = readNumber(0, PAGE_COUNT - 1);
                    take(WITH);
                    second = readNumber(0, PAGE_COUNT - 1);
                    break;
                case DAY: first = readNumber(1, MOST_DAYS); break;
                case COMPACT: break;
                default: readLaw(kind); break;
            }
            take(SEMICOLON);
            text.addClause(kind, first, second);
        }

        private int readNumber(int least, int most) {
            if (kind() != NUMBER) {
                fail(CANT_STAND);
                return 0;
            }
            int number = numbers[at];
            if (number < least || number > most) {
                fail(NO_SUCH_NUMBER);
                return 0;
            }
            at++;
            return number;
        }

        private void readLaw(int kind) {
            law = kind;
            text.startLaw(kind);
            readSum(0);
            text.endLaw(kind);
        }

        /** In all that reads sums: how many of ( not live place if - are open around it. */
        private void readSum(int open) {
            readProduct(open);
            for (int i = 0; i < TAPE_BYTES && (kind() == PLUS || kind() == MINUS); i++) {
                int sign = kind();
                at++;
                readProduct(open);
                text.addCode(sign, 0);
            }
        }

        private void readProduct(int open) {
            readOne(open);
            for (int i = 0; i < TAPE_BYTES && (kind() == TIMES || kind() == BY); i++) {
                int sign = kind();
                at++;
                readOne(open);
                text.addCode(sign, 0);
            }
        }

        private void readOne(int open) {
            int kind = kind();
            switch (kind) {
                case NUMBER:
                    text.addCode(NUMBER, readNumber(0, LAST_NUMBER));
                    break;
                case ROUND_OPENS:
                    if (opens(open)) {
                        readSum(open + 1);
                        take(ROUND_CLOSES);
                    }
                    break;
                case MINUS: case LIVE: case PLACE:
                    if (opens(open)) {
                        readOne(open + 1);
                        text.addCode(kind == MINUS ? NEGATE : kind, 0);
                    }
                    break;
                case IF:
                    if (opens(open)) {
                        readChoice(open + 1);
                    }
                    break;
                default:
                    readName(kind);
                    break;
            }
        }

        /** Takes what opens one more, unless so many are open that it can't. */
        private boolean opens(int open) {
            if (open >= MOST_OPEN) {
                fail(TOO_DEEP);
                return false;
            }
            at++;
            return true;
        }

        private void readName(int kind) {
            if (kind < NAME_TIME || kind > NAME_SPARSE) {
                fail(CANT_STAND);
            } else if (law == PROBES && (kind == NAME_ONE || kind == NAME_OTHER) || law == MESHES && kind == NAME_SPARSE) {
                fail(OTHER_NAME);
            } else {
                text.addCode(kind, 0);
                at++;
            }
        }

        private void readChoice(int open) {
            readEither(open);
            take(THEN);
            int unless = text.addCode(JUMP_UNLESS, 0);
            readSum(open);
            take(ELSE);
            int over = text.addCode(JUMP, 0);
            text.jumpHereFrom(unless);
            readSum(open);
            take(END);
            text.jumpHereFrom(over);
        }

        private void readEither(int open) {
            readBoth(open);
            for (int i = 0; i < TAPE_BYTES && kind() == OR; i++) {
                at++;
                readBoth(open);
                text.addCode(OR, 0);
            }
        }

        private void readBoth(int open) {
            readAsk(open);
            for (int i = 0; i < TAPE_BYTES && kind() == AND; i++) {
                at++;
                readAsk(open);
                text.addCode(AND, 0);
            }
        }

        private void readAsk(int open) {
            if (kind() == NOT) {
                if (opens(open)) {
                    readAsk(open + 1);
                    text.addCode(NOT, 0);
                }
                return;
            }
            readSum(open);
            int sign = kind();
            if (sign < LESS || sign > UNLIKE) {
                fail(CANT_STAND);
                return;
            }
            at++;
            readSum(open);
            text.addCode(sign, 0);
        }
    }

    /** The most pairs of frames that do not clash, for each set of the frames with pages. */
    private static final class Pairs {
        private int count = 0;
        private final int[] frames = new int[PAGE_COUNT];
        private final int[] lives = new int[PAGE_COUNT];
        private final int[] most = new int[1 << PAGE_COUNT];

        void countOf(Pages pages) {
            takeFrames(pages);
            most[0] = 0;
            for (int last = 0; last < count; last++) {
                for (int set = 1 << last; set < 1 << last + 1; set++) {
                    most[set] = mostWithLast(set, last);
                }
            }
        }

        private void takeFrames(Pages pages) {
            int used = pages.framesUsed();
            count = 0;
            for (int frame = 0; frame < PAGE_COUNT; frame++) {
                if ((used >> frame & 1) == 1) {
                    frames[count] = frame;
                    lives[count] = pages.liveIn(frame);
                    count++;
                }
            }
        }

        /** The sets without the last one of this were counted before. */
        private int mostWithLast(int set, int last) {
            int rest = set & ~(1 << last);
            int best = most[rest];
            for (int i = 0; i < last; i++) {
                if ((rest >> i & 1) == 1 && (lives[i] & lives[last]) == 0) {
                    best = Math.max(best, 1 + most[rest & ~(1 << i)]);
                }
            }
            return best;
        }

        int mostPairs() {
            return most[(1 << count) - 1];
        }

        /** From the lowest frame on each takes the lowest mate that leaves as many pairs as there can be. */
        int mateOf(int frame) {
            int left = (1 << count) - 1;
            for (int i = 0; i < count; i++) {
                if ((left >> i & 1) == 1) {
                    int mate = lowestMate(left, i);
                    if (frames[i] == frame) {
                        return mate == NONE ? NONE : frames[mate];
                    }
                    if (mate != NONE && frames[mate] == frame) {
                        return frames[i];
                    }
                    left &= ~(1 << i);
                    left = mate == NONE ? left : left & ~(1 << mate);
                }
            }
            return NONE;
        }

        private int lowestMate(int left, int i) {
            for (int j = i + 1; j < count; j++) {
                int both = 1 << i | 1 << j;
                if ((left >> j & 1) == 1 && (lives[i] & lives[j]) == 0 && 1 + most[left & ~both] == most[left]) {
                    return j;
                }
            }
            return NONE;
        }
    }

    /** The fewest frames for all pages: each frame's slots go to one of the groups or open a new one. */
    private static final class Cover {
        private int count = 0;
        private int fewest = 0;
        private int least = 0;
        private final int[] frames = new int[PAGE_COUNT];
        private final int[] lives = new int[PAGE_COUNT];
        private final int[] groups = new int[PAGE_COUNT];

        int fewestFor(Pages pages) {
            for (int frame = 0; frame < PAGE_COUNT; frame++) {
                frames[frame] = pages.liveIn(frame);
            }
            count = 0;
            // Those that clash with most come first: they leave the fewest ways.
            for (int clashes = PAGE_COUNT; clashes >= 1; clashes--) {
                takeWith(clashes);
            }
            fewest = count;
            least = mostOnOneSlot();
            place(0, 0);
            return fewest;
        }

        private void takeWith(int clashes) {
            for (int frame = 0; frame < PAGE_COUNT; frame++) {
                if (clashesOf(frames[frame]) == clashes && count < PAGE_COUNT) {
                    lives[count] = frames[frame];
                    count++;
                }
            }
        }

        /** How many frames have one of these slots, itself among them; none without slots. */
        private int clashesOf(int live) {
            int clashes = 0;
            for (int frame = 0; frame < PAGE_COUNT; frame++) {
                if ((frames[frame] & live) != 0) {
                    clashes++;
                }
            }
            return clashes;
        }

        /** Frames that have one slot all clash: no way has fewer groups. */
        private int mostOnOneSlot() {
            int most = 0;
            for (int slot = 0; slot < SLOT_COUNT; slot++) {
                most = Math.max(most, clashesOf(1 << slot));
            }
            return most;
        }

        /** No deeper than there are frames; ways that can't be fewer are left. */
        private void place(int i, int used) {
            if (used >= fewest || fewest <= least) {
                return;
            }
            if (i >= count || i >= PAGE_COUNT) {
                fewest = used;
                return;
            }
            for (int group = 0; group < used; group++) {
                if ((groups[group] & lives[i]) == 0) {
                    groups[group] |= lives[i];
                    place(i + 1, used);
                    groups[group] &= ~lives[i];
                }
            }
            groups[used] = lives[i];
            place(i + 1, used + 1);
        }
    }
}

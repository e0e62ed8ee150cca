import java.util.Arrays;
import java.util.NoSuchElementException;

/**
 * A folio of flash: blocks whose leaves are written once and wiped all at once, pages that are
 * written out of place, and questions about what that costs. The words in the comments (HOME, RUN,
 * LOG, LATEST, ..) are those of the document.
 */
public final class FlashFolio {
    public static final int NONE = -1;

    private static final int BLOCKS = 16;
    /** As many leaves has a block, and as many pages a folder. */
    private static final int PLACES = 4;
    private static final int LEAVES = BLOCKS * PLACES;
    private static final int PAGES = 24;
    private static final int FOLDERS = 6;
    private static final int VALUES = 100;
    private static final int MOST_WIPES = 999;
    private static final int MOST_HEAT = 99;
    private static final int MOST_COUNT = 99999;
    private static final int MOST_TEXT = 80;
    private static final int MOST_HEARD = 12;
    private static final int MOST_ROW = 12;
    private static final int MOST_BURST = 24;
    private static final int MOST_LASTS = 99;
    private static final int MOST_STEPS = 99;
    private static final int MOST_YEARS = 60;
    private static final int LAW_WRITES = 40;
    private static final int MOST_PAST = 8;
    private static final int MOST_KEPT = 2;

    private static final int FREE = 0;
    private static final int HOME = 1;
    private static final int RUN = 2;
    private static final int COLD = 3;
    private static final int HOT = 4;

    private static final int COLDS = 0;
    private static final int HOTS = 1;
    private static final int WARM = 2;
    private static final int LIMITS = 3;
    private static final int[] LEAST_LIMIT = {1, 0, 1};
    private static final int[] MOST_LIMIT = {3, 2, 9};

    /** Places of the counts; from WRITES on they are the numbers that count() knows them by. */
    private static final int STAMP = 0;
    private static final int WRITES = 1;
    private static final int COPIES = 2;
    private static final int WIPED = 3;
    private static final int SWITCHES = 4;
    private static final int PARTIALS = 5;
    private static final int FULLS = 6;
    private static final int COUNTS = 7;

    /** The answer where there is nothing to do it with, or nothing to tell. */
    private static final int LACKS = -2;
    private static final int MISSING = -3;
    private static final int MORE_LOGS = -3;
    private static final int NO_VALUE = 100;
    private static final int NO_COUNT = -100;
    private static final int LAW_WRONG = -10000;

    private static final int KINDS_HEARD = 4;
    private static final int[] MOST_HEARD_V = {4, 9, 4, 5};

    /** As many numbers hold all of a Flash that undo() brings back. */
    private static final int STORED = 3 * LEAVES + 3 * BLOCKS + PAGES + LIMITS + COUNTS;

    private final Flash now = new Flash();
    private final Flash trial = new Flash();
    /** A ring of one place more than are kept: an act that is refused then spoils none of them. */
    private final int[] past = new int[(MOST_PAST + 1) * STORED];
    private int pastFirst = 0;
    private int pastSize = 0;
    private final int[] kept = new int[MOST_KEPT * STORED];
    private final boolean[] isKept = new boolean[MOST_KEPT];
    private Rule ruling = new Rule();
    private Rule otherRule = new Rule();
    private final char[] text = new char[MOST_TEXT];
    private int textSize = 0;
    private final long[] told = new long[MOST_ROW];
    private int toldSize = 0;
    private final int[] heardWhat = new int[MOST_HEARD];
    private final int[] heardV = new int[MOST_HEARD];
    private int heardSize = 0;
    private int drawn = 0;

    public FlashFolio() {
    }

    // ---- the rule, blocks

    public int sign(int v) {
        if (textSize + 4 > MOST_TEXT) {
            return NONE;
        }
        for (int shift = 24; shift >= 0; shift -= 8) {
            text[textSize] = (char) ((v >>> shift) & 255);
            textSize++;
        }
        return textSize;
    }

    public boolean end(int n) {
        if (n < 0 || n > textSize) {
            return false;
        }
        textSize = n;
        return true;
    }

    public int rule() {
        int wrong = readOtherRule();
        if (wrong != NONE) {
            return -1 - wrong;
        }
        Rule before = ruling;
        ruling = otherRule;
        otherRule = before;
        return 0;
    }

    public int block(int block, int what) throws NoSuchElementException {
        if (block < 0 || block >= BLOCKS) {
            throw new NoSuchElementException("no such block");
        }
        switch (what) {
            case 0:
                return now.kind[block];
            case 1:
                return now.owner[block];
            case 2:
                return now.writtenIn(block);
            case 3:
                return now.latestIn(block);
            case 4:
                return now.wipes[block];
            default:
                throw new NoSuchElementException("no such thing of a block");
        }
    }

    public int leaf(int block, int leaf, int what) throws NoSuchElementException {
        if (block < 0 || block >= BLOCKS || leaf < 0 || leaf >= PLACES) {
            throw new NoSuchElementException("no such leaf");
        }
        int at = block * PLACES + leaf;
        if (now.isEmptyAt(at)) {
            throw new NoSuchElementException("an empty leaf");
        }
        switch (what) {
            case 0:
                return now.page[at];
            case 1:
                return now.value[at];
            case 2:
                return now.stamp[at];
            default:
                throw new NoSuchElementException("no such thing of a leaf");
        }
    }

    public int sheet(int kind, int n, int f, int step) {
        if (kind < 0 || kind > 3 || n > BLOCKS) {
            return NONE;
        }
        if (kind == 3) {
            Arrays.fill(now.wipes, 0);
            return MISSING;
        }
        if (n < 0) {
            return LACKS;
        }
        for (int block = 0; block < BLOCKS; block++) {
            now.wipes[block] = block < n ? sheetEntry(kind, f + block * step) : 0;
        }
        return now.wipesOfAll();
    }

    private static int sheetEntry(int kind, int v) {
        int entry = kind == 0 ? (byte) v : kind == 1 ? (short) v : v;
        return Math.max(0, Math.min(entry, MOST_WIPES));
    }

    // ---- what is done

    public int writes(int page, int value) {
        begin();
        int answer = now.write(page, value, ruling);
        if (settle(answer)) {
            tell(now.wroteAt % PLACES);
            tellMore();
        }
        return answer;
    }

    public int reads(int page) {
        if (!isPage(page)) {
            return NONE;
        }
        int at = now.latestOf(page);
        if (at == NONE) {
            return LACKS;
        }
        tellAnew();
        tell(at / PLACES);
        tell(at % PLACES);
        tell(now.stamp[at]);
        return now.value[at];
    }

    public int merges(int folder) {
        begin();
        return settleMore(now.mergeFolder(folder));
    }

    public int seals() {
        begin();
        return settleMore(now.sealRun());
    }

    public int clears(int kind) {
        begin();
        return settleMore(now.clearFirst(kindOfRow(kind)));
    }

    public int levels() {
        begin();
        int answer = now.level();
        if (settle(answer)) {
            tell(now.levelledFrom);
        }
        return answer;
    }

    public int cools() {
        begin();
        int answer = now.coolAll();
        keepPast();
        return answer;
    }

    public int sets(int what, int v) {
        if (what < 0 || what >= LIMITS || v < LEAST_LIMIT[what] || v > MOST_LIMIT[what]) {
            return NONE;
        }
        int before = now.limit[what];
        if (v == before) {
            return LACKS;
        }
        if (what != WARM && now.howMany(COLD + what) > v) {
            return MORE_LOGS;
        }
        begin();
        now.limit[what] = v;
        keepPast();
        return 10 + before;
    }

    public int day() {
        int size = textSize;
        textSize = 0;
        int wrong = wrongInDay(size);
        if (wrong != NONE) {
            return -1 - wrong;
        }
        begin();
        int done = 0;
        int refused = 0;
        int p = 0;
        while (p < size && refused == 0) {
            if (doAct(p) < 0) {
                refused = 1;
            } else {
                done++;
                p += Math.max(1, actSize(text[p]));
            }
        }
        if (done > 0) {
            keepPast();
        }
        tellAnew();
        tell(refused);
        tellMore();
        return done;
    }

    public int undo() {
        if (pastSize == 0) {
            return NONE;
        }
        pastSize--;
        now.load(past, pastSlot());
        return pastSize;
    }

    // ---- where pages are

    public int copies(int page) {
        if (!isPage(page)) {
            return NONE;
        }
        int all = 0;
        for (int at = 0; at < LEAVES; at++) {
            all += now.page[at] == page ? 1 : 0;
        }
        tellAnew();
        int last = NONE;
        for (int i = 0; i < all && i < MOST_ROW; i++) {
            last = now.copyBehind(page, last);
            tell(last);
        }
        return all;
    }

    public int stale() {
        int all = 0;
        int worn = NONE;
        int most = 0;
        for (int block = 0; block < BLOCKS; block++) {
            int here = Integer.bitCount(now.writtenIn(block)) - Integer.bitCount(now.latestIn(block));
            all += here;
            if (here > most) {
                worn = block;
                most = here;
            }
        }
        tellAnew();
        if (all > 0) {
            tell(worn);
            tell(most);
        }
        return all;
    }

    public int hot() {
        int bits = 0;
        int hottest = 0;
        for (int page = 0; page < PAGES; page++) {
            bits |= now.isHot(page) ? 1 << page : 0;
            if (now.warmth[page] > now.warmth[hottest]) {
                hottest = page;
            }
        }
        tellAnew();
        tell(Integer.bitCount(bits));
        tell(hottest);
        tell(now.warmth[hottest]);
        return bits;
    }

    public int heat(int page) {
        return isPage(page) ? now.warmth[page] : NONE;
    }

    public int next() {
        int block = now.leastWornFree();
        if (block == NONE) {
            return NONE;
        }
        tellAnew();
        tell(now.wipes[block]);
        tell(now.howMany(FREE));
        return block;
    }

    public int logs(int kind) {
        int of = kindOfRow(kind);
        if (of == NONE) {
            return NONE;
        }
        int all = now.howMany(of);
        tellAnew();
        for (int i = 0; i < all; i++) {
            tell(now.owned(of, i));
        }
        return all;
    }

    public int holds(int kind) {
        int of = kindOfRow(kind);
        if (of == NONE) {
            return NONE;
        }
        int log = now.owned(of, 0);
        if (log == NONE) {
            return LACKS;
        }
        int bits = now.foldersIn(log, now.latestIn(log));
        begin();
        beginTrial();
        trial.clearFirst(of);
        tellAnew();
        tell(Integer.bitCount(bits));
        tell(trial.since(COPIES));
        return bits;
    }

    public int spread() {
        tellAnew();
        tell(now.mostWorn());
        tell(now.leastWorn());
        tell(now.wipesOfAll());
        return now.wear();
    }

    // ---- what it would cost

    public int costs(int page) {
        if (!isPage(page)) {
            return NONE;
        }
        begin();
        beginTrial();
        trial.write(page, 0, ruling);
        tellAnew();
        tell(trial.since(WIPED));
        tell(trial.wroteBy);
        tell(trial.levelled);
        return trial.since(COPIES);
    }

    public int worst() {
        int worst = 0;
        int copies = NONE;
        int wiped = NONE;
        begin();
        for (int page = 0; page < PAGES; page++) {
            beginTrial();
            trial.write(page, 0, ruling);
            int copiesHere = trial.since(COPIES);
            int wipedHere = trial.since(WIPED);
            if (copiesHere > copies || (copiesHere == copies && wipedHere > wiped)) {
                worst = page;
                copies = copiesHere;
                wiped = wipedHere;
            }
        }
        tellAnew();
        tell(copies);
        tell(wiped);
        return worst;
    }

    public int burst(int page, int n) {
        if (!isPage(page) || n < 1 || n > MOST_BURST) {
            return NONE;
        }
        begin();
        beginTrial();
        for (int i = 0; i < n; i++) {
            trial.write((page + i) % PAGES, 0, ruling);
        }
        tellAnew();
        for (int what = WIPED; what <= FULLS; what++) {
            tell(trial.since(what));
        }
        return trial.since(COPIES);
    }

    public int lasts(int page, int k) {
        if (!isPage(page) || k < 1 || k > MOST_WIPES) {
            return NONE;
        }
        begin();
        beginTrial();
        int written = 0;
        int worn = trial.wornTo(k);
        while (worn == NONE && written < MOST_LASTS) {
            trial.write(page, 0, ruling);
            written++;
            worn = trial.wornTo(k);
        }
        if (worn == NONE) {
            return LACKS;
        }
        tellAnew();
        tell(worn);
        tell(trial.since(COPIES));
        return written;
    }

    public int cuts(int page, int value, int k) {
        if (!isPage(page) || value < 0 || value >= VALUES || k < 0 || k > MOST_STEPS) {
            return NONE;
        }
        begin();
        beginTrial();
        trial.write(page, value, ruling);
        int steps = trial.steps;
        beginTrial();
        trial.stepLimit = k;
        trial.write(page, value, ruling);
        trial.stepLimit = Flash.ALL_STEPS;
        int others = 0;
        for (int other = 0; other < PAGES; other++) {
            others += other != page && trial.valueOf(other) != now.valueOf(other) ? 1 : 0;
        }
        tellAnew();
        tell(steps);
        tell(others);
        return trial.valueOf(page);
    }

    public int swells() {
        int lower = now.tally[WRITES];
        if (lower < 1) {
            return LACKS;
        }
        int upper = lower + now.tally[COPIES];
        int shared = greatestShared(upper, lower);
        tellAnew();
        tell(upper / shared);
        tell(lower / shared);
        return 0;
    }

    private static int greatestShared(int a, int b) {
        int x = a;
        int y = b;
        for (int i = 0; i < 64 && y != 0; i++) {
            int rest = x % y;
            x = y;
            y = rest;
        }
        return Math.max(1, x);
    }

    // ---- which block it was

    public int heard(int what, int v) {
        if (what < 0 || what >= KINDS_HEARD || v < 0 || v > MOST_HEARD_V[what] || heardSize >= MOST_HEARD) {
            return NONE;
        }
        heardWhat[heardSize] = what;
        heardV[heardSize] = v;
        heardSize++;
        return heardSize;
    }

    public int denies() {
        int before = heardSize;
        heardSize = 0;
        return before;
    }

    public int fits() {
        int bits = fitting();
        tellAnew();
        tell(Integer.bitCount(bits));
        return bits;
    }

    public int asks() {
        int fitting = fitting();
        if (fitting == 0) {
            return LACKS;
        }
        int all = Integer.bitCount(fitting);
        int ask = NONE;
        int least = BLOCKS + 1;
        for (int what = 0; what < KINDS_HEARD; what++) {
            for (int v = 0; v <= MOST_HEARD_V[what]; v++) {
                int so = Integer.bitCount(fitting & now.blocksOf(what, v));
                int left = Math.max(so, all - so);
                if (left < least) {
                    ask = 10 * what + v;
                    least = left;
                }
            }
        }
        tellAnew();
        tell(least);
        return ask;
    }

    // ---- rules, years

    public int law(int seed) {
        int wrong = readOtherRule();
        if (wrong != NONE) {
            return LAW_WRONG - wrong;
        }
        begin();
        tryYears(seed, LAW_WRITES, otherRule);
        int wearByIt = trial.wear();
        int copiesByIt = trial.since(COPIES);
        tryYears(seed, LAW_WRITES, ruling);
        int wear = trial.wear();
        tellAnew();
        tell(wearByIt);
        tell(wear);
        tell(copiesByIt);
        tell(trial.since(COPIES));
        return wearByIt - wear;
    }

    public int years(int seed, int n) {
        if (n < 1 || n > MOST_YEARS) {
            return NONE;
        }
        begin();
        tryYears(seed, n, ruling);
        tellAnew();
        tell(trial.since(WIPED));
        tell(trial.since(FULLS));
        tell(trial.sumOfLeaves());
        return trial.since(COPIES);
    }

    public int sum() {
        tellAnew();
        tell(now.sumOfLeaves());
        return 0;
    }

    // ---- kept

    public boolean keep(int i) {
        if (i < 0 || i >= MOST_KEPT) {
            return false;
        }
        now.save(kept, i * STORED);
        isKept[i] = true;
        return true;
    }

    public boolean again(int i) {
        if (i < 0 || i >= MOST_KEPT || !isKept[i]) {
            return false;
        }
        now.load(kept, i * STORED);
        pastSize = 0;
        return true;
    }

    public int count(int what) {
        if (what >= WRITES && what <= FULLS) {
            return now.tally[what];
        }
        switch (what) {
            case 0:
                return now.blocksOf(0, FREE);
            case 7:
                return now.writtenLeaves();
            case 8:
                return now.tally[STAMP];
            case 9:
                return heardSize;
            case 10:
                return pastSize;
            case 11:
                return toldSize;
            case 12:
                return textSize;
            default:
                return NO_COUNT;
        }
    }

    public long row(int i) throws NoSuchElementException {
        if (i < 0 || i >= toldSize) {
            throw new NoSuchElementException("no such number of the row");
        }
        return told[i];
    }

    // ---- what the calls share

    private static boolean isPage(int page) {
        return page >= 0 && page < PAGES;
    }

    /** The kind of the logs in a row of that number, or NONE. */
    private static int kindOfRow(int row) {
        return row == 0 ? COLD : row == 1 ? HOT : NONE;
    }

    private void tellAnew() {
        toldSize = 0;
    }

    private void tell(long number) {
        if (toldSize < MOST_ROW) {
            told[toldSize] = number;
            toldSize++;
        }
    }

    private void tellMore() {
        tell(now.since(COPIES));
        tell(now.since(WIPED));
    }

    private int pastSlot() {
        return (pastFirst + pastSize) % (MOST_PAST + 1) * STORED;
    }

    /** Holds fast what is now, for an undo() or for trials, and counts from here on. */
    private void begin() {
        now.mark();
        now.save(past, pastSlot());
    }

    /** The trial is as it was when begin() was called. */
    private void beginTrial() {
        trial.load(past, pastSlot());
        trial.mark();
    }

    private void keepPast() {
        if (pastSize < MOST_PAST) {
            pastSize++;
        } else {
            pastFirst = (pastFirst + 1) % (MOST_PAST + 1);
        }
    }

    /** What an act answered is settled: true if it was done; then it can be undone, and the row is new. */
    private boolean settle(int answer) {
        if (answer < 0) {
            return false;
        }
        keepPast();
        tellAnew();
        return true;
    }

    private int settleMore(int answer) {
        if (settle(answer)) {
            tellMore();
        }
        return answer;
    }

    /** The text, which is empty then, is read as a rule: where it is wrong, or NONE. */
    private int readOtherRule() {
        int size = textSize;
        textSize = 0;
        return otherRule.read(text, size);
    }

    /** How many signs the act has that begins with a sign, or 0 if none does. */
    private static int actSize(char act) {
        switch (act) {
            case 'w':
                return 5;
            case 'm':
            case 'c':
                return 2;
            case 'q':
            case 'l':
            case 'h':
                return 1;
            default:
                return 0;
        }
    }

    /** Where the first sign stands that cannot stand there in a day, or NONE. */
    private int wrongInDay(int size) {
        char act = 'q';
        int left = 0;
        for (int p = 0; p < size && p < MOST_TEXT; p++) {
            char sign = text[p];
            if (left > 0) {
                char most = act == 'c' ? '1' : '9';
                if (sign < '0' || sign > most) {
                    return p;
                }
                left--;
            } else {
                act = sign;
                left = actSize(act) - 1;
                if (left < 0) {
                    return p;
                }
            }
        }
        return left > 0 ? size : NONE;
    }

    private int digitAt(int p) {
        return p >= 0 && p < MOST_TEXT ? text[p] - '0' : 0;
    }

    /** Does the act of a day that begins at p: what the call of its own would answer. */
    private int doAct(int p) {
        if (p < 0 || p >= MOST_TEXT) {
            return NONE;
        }
        switch (text[p]) {
            case 'w':
                return now.write(10 * digitAt(p + 1) + digitAt(p + 2), 10 * digitAt(p + 3) + digitAt(p + 4), ruling);
            case 'm':
                return now.mergeFolder(digitAt(p + 1));
            case 'q':
                return now.sealRun();
            case 'c':
                return now.clearFirst(kindOfRow(digitAt(p + 1)));
            case 'l':
                return now.level();
            case 'h':
                return now.coolAll();
            default:
                return NONE;
        }
    }

    /** The blocks that fit all that was heard, as bits. */
    private int fitting() {
        int bits = (1 << BLOCKS) - 1;
        for (int i = 0; i < heardSize && i < MOST_HEARD; i++) {
            bits &= now.blocksOf(heardWhat[i], heardV[i]);
        }
        return bits;
    }

    private int draw(int n) {
        drawn = drawn * 1103515245 + 12345;
        return n < 1 ? 0 : (drawn >>> 16) % n;
    }

    private void tryYears(int seed, int n, Rule rule) {
        beginTrial();
        drawn = seed;
        for (int i = 0; i < n; i++) {
            int page = draw(4) < 3 ? draw(PAGES) : draw(4);
            trial.write(page, draw(VALUES), rule);
        }
    }

    /** All that undo() brings back: leaves, blocks, heat, limits, counts; and what is done to them. */
    private static final class Flash {
        /** More than any write has: the power stays. */
        private static final int ALL_STEPS = 1 << 30;
        /** NONE of an empty leaf. */
        private final int[] page = new int[LEAVES];
        private final int[] value = new int[LEAVES];
        private final int[] stamp = new int[LEAVES];
        private final int[] kind = new int[BLOCKS];
        /** The folder of a HOME and of the RUN, the number in its row of a LOG, 0 of a FREE one. */
        private final int[] owner = new int[BLOCKS];
        private final int[] wipes = new int[BLOCKS];
        private final int[] warmth = new int[PAGES];
        private final int[] limit = new int[LIMITS];
        private final int[] tally = new int[COUNTS];
        private final int[] marked = new int[COUNTS];
        private final int[] things = new int[Rule.THINGS_KNOWN];
        /** Steps of the latest write, and how many of them are done at most: the power may go. */
        private int steps = 0;
        private int stepLimit = ALL_STEPS;
        private boolean wipedNow = false;
        private int wroteAt = 0;
        private int wroteBy = 0;
        private int levelled = 0;
        private int levelledFrom = 0;

        private Flash() {
            Arrays.fill(page, NONE);
            limit[COLDS] = 2;
            limit[HOTS] = 1;
            limit[WARM] = 3;
        }

        private void save(int[] store, int from) {
            carry(store, from, true);
        }

        private void load(int[] store, int from) {
            carry(store, from, false);
        }

        private void carry(int[] store, int from, boolean out) {
            if (from < 0 || from > store.length - STORED) {
                return;
            }
            int at = carryPart(page, store, from, out);
            at = carryPart(value, store, at, out);
            at = carryPart(stamp, store, at, out);
            at = carryPart(kind, store, at, out);
            at = carryPart(owner, store, at, out);
            at = carryPart(wipes, store, at, out);
            at = carryPart(warmth, store, at, out);
            at = carryPart(limit, store, at, out);
            carryPart(tally, store, at, out);
        }

        private static int carryPart(int[] part, int[] store, int at, boolean out) {
            if (at < 0 || at > store.length - part.length) {
                return at;
            }
            if (out) {
                System.arraycopy(part, 0, store, at, part.length);
            } else {
                System.arraycopy(store, at, part, 0, part.length);
            }
            return at + part.length;
        }

        /** From here on since() counts. */
        private void mark() {
            System.arraycopy(tally, 0, marked, 0, COUNTS);
        }

        private int since(int what) {
            return what < 0 || what >= COUNTS ? 0 : tally[what] - marked[what];
        }

        private void countOne(int what) {
            if (what >= 0 && what < COUNTS && tally[what] < MOST_COUNT) {
                tally[what]++;
            }
        }

        // -- steps: once the power is gone, leaves stay as they are

        private boolean isEmptyAt(int at) {
            return at >= 0 && at < LEAVES && page[at] == NONE;
        }

        private void put(int at, int p, int v, int s) {
            steps++;
            if (steps > stepLimit || at < 0 || at >= LEAVES) {
                return;
            }
            page[at] = p;
            value[at] = v;
            stamp[at] = s;
        }

        /** An empty leaf, or none, is not copied. */
        private void copyLeaf(int from, int to) {
            if (from < 0 || from >= LEAVES || page[from] == NONE) {
                return;
            }
            put(to, page[from], value[from], stamp[from]);
            countOne(COPIES);
        }

        private void wipe(int block) {
            if (block < 0 || block >= BLOCKS) {
                return;
            }
            steps++;
            if (steps <= stepLimit) {
                for (int leaf = 0; leaf < PLACES; leaf++) {
                    page[block * PLACES + leaf] = NONE;
                }
            }
            kind[block] = FREE;
            owner[block] = 0;
            wipes[block] = Math.min(wipes[block] + 1, MOST_WIPES);
            wipedNow = true;
            countOne(WIPED);
        }

        private int take(int ofKind, int ofOwner) {
            int block = leastWornFree();
            if (block != NONE) {
                kind[block] = ofKind;
                owner[block] = ofOwner;
            }
            return block;
        }

        // -- what is done

        private int write(int p, int v, Rule rule) {
            if (p < 0 || p >= PAGES || v < 0 || v >= VALUES) {
                return NONE;
            }
            steps = 0;
            wipedNow = false;
            tally[STAMP]++;
            warmth[p] = Math.min(warmth[p] + 1, MOST_HEAT);
            int folder = p / PLACES;
            int place = p % PLACES;
            int home = owned(HOME, folder);
            if (home == NONE) {
                home = take(HOME, folder);
            }
            int run = owned(RUN, folder);
            int to = home * PLACES + place;
            if (isEmptyAt(to)) {
                wroteBy = 2;
            } else if (place == 0) {
                wroteBy = 3;
                sealRun();
                to = take(RUN, folder) * PLACES;
            } else if (run != NONE && filled(run) == place) {
                wroteBy = 4;
                to = run * PLACES + place;
            } else {
                wroteBy = 5;
                int log = isHot(p) ? HOT : COLD;
                to = roomInLogs(log);
                if (to == NONE) {
                    if (howMany(log) >= limit[log - COLD]) {
                        clearFirst(log);
                    }
                    to = take(log, howMany(log)) * PLACES;
                }
            }
            put(to, p, v, tally[STAMP]);
            if (wroteBy == 4 && place == PLACES - 1) {
                sealRun();
            }
            wroteAt = Math.max(0, to);
            countOne(WRITES);
            levelled = wipedNow && rule.worth(thingsNow()) > 0 && level() >= 0 ? 1 : 0;
            return wroteAt / PLACES;
        }

        /** The new home of a folder by a full merge; LACKS if none of its leaves is written. */
        private int mergeFolder(int folder) {
            if (folder < 0 || folder >= FOLDERS) {
                return NONE;
            }
            // (1) of a write gives a folder its home ahead of its first leaf
            return owned(HOME, folder) == NONE ? LACKS : fullMerge(folder);
        }

        private int fullMerge(int folder) {
            int before = owned(HOME, folder);
            int run = owned(RUN, folder);
            int fresh = take(HOME, folder);
            for (int place = 0; place < PLACES; place++) {
                copyLeaf(latestOf(folder * PLACES + place), fresh * PLACES + place);
            }
            wipe(before);
            wipe(run);
            countOne(FULLS);
            return fresh;
        }

        /** 0 by a switch, 1 by a partial merge, 2 by a full one; LACKS without a run. */
        private int sealRun() {
            int run = firstOf(RUN);
            if (run == NONE) {
                return LACKS;
            }
            int folder = owner[run];
            int n = filled(run);
            if (latestIn(run) != writtenIn(run)) {
                fullMerge(folder);
                return 2;
            }
            int before = owned(HOME, folder);
            for (int place = n; place < PLACES; place++) {
                copyLeaf(latestOf(folder * PLACES + place), run * PLACES + place);
            }
            kind[run] = HOME;
            wipe(before);
            countOne(n == PLACES ? SWITCHES : PARTIALS);
            return n == PLACES ? 0 : 1;
        }

        /** How many full merges clear the first log of a kind; LACKS without one, NONE if logs have no such kind. */
        private int clearFirst(int log) {
            if (log != COLD && log != HOT) {
                return NONE;
            }
            int block = owned(log, 0);
            if (block == NONE) {
                return LACKS;
            }
            int folders = foldersIn(block, latestIn(block));
            for (int folder = 0; folder < FOLDERS; folder++) {
                if ((folders >> folder & 1) != 0) {
                    fullMerge(folder);
                }
            }
            wipe(block);
            for (int other = 0; other < BLOCKS; other++) {
                if (kind[other] == log) {
                    owner[other]--;
                }
            }
            return Integer.bitCount(folders);
        }

        private int level() {
            int home = NONE;
            int free = NONE;
            for (int block = 0; block < BLOCKS; block++) {
                if (kind[block] == HOME && (home == NONE || wipes[block] < wipes[home])) {
                    home = block;
                }
                if (kind[block] == FREE && (free == NONE || wipes[block] > wipes[free])) {
                    free = block;
                }
            }
            if (home == NONE || free == NONE || wipes[home] >= wipes[free]) {
                return LACKS;
            }
            for (int leaf = 0; leaf < PLACES; leaf++) {
                copyLeaf(home * PLACES + leaf, free * PLACES + leaf);
            }
            kind[free] = HOME;
            owner[free] = owner[home];
            wipe(home);
            levelledFrom = home;
            return free;
        }

        private int coolAll() {
            int hotOnes = 0;
            for (int p = 0; p < PAGES; p++) {
                warmth[p] /= 2;
                hotOnes += isHot(p) ? 1 : 0;
            }
            return hotOnes;
        }

        // -- blocks

        private int firstOf(int ofKind) {
            for (int block = 0; block < BLOCKS; block++) {
                if (kind[block] == ofKind) {
                    return block;
                }
            }
            return NONE;
        }

        private int owned(int ofKind, int ofOwner) {
            for (int block = 0; block < BLOCKS; block++) {
                if (kind[block] == ofKind && owner[block] == ofOwner) {
                    return block;
                }
            }
            return NONE;
        }

        private int leastWornFree() {
            int best = NONE;
            for (int block = 0; block < BLOCKS; block++) {
                if (kind[block] == FREE && (best == NONE || wipes[block] < wipes[best])) {
                    best = block;
                }
            }
            return best;
        }

        private int howMany(int ofKind) {
            int all = 0;
            for (int block = 0; block < BLOCKS; block++) {
                all += kind[block] == ofKind ? 1 : 0;
            }
            return all;
        }

        /** The first empty leaf of the last log of a kind, or NONE. */
        private int roomInLogs(int log) {
            int last = owned(log, howMany(log) - 1);
            int n = filled(last);
            return last == NONE || n == PLACES ? NONE : last * PLACES + n;
        }

        private int mostWorn() {
            int worn = 0;
            for (int block = 1; block < BLOCKS; block++) {
                worn = wipes[block] > wipes[worn] ? block : worn;
            }
            return worn;
        }

        private int leastWorn() {
            int worn = 0;
            for (int block = 1; block < BLOCKS; block++) {
                worn = wipes[block] < wipes[worn] ? block : worn;
            }
            return worn;
        }

        private int wear() {
            return wipes[mostWorn()] - wipes[leastWorn()];
        }

        private int wipesOfAll() {
            int all = 0;
            for (int block = 0; block < BLOCKS; block++) {
                all += wipes[block];
            }
            return all;
        }

        /** The least block of k wipes or more, or NONE. */
        private int wornTo(int k) {
            for (int block = 0; block < BLOCKS; block++) {
                if (wipes[block] >= k) {
                    return block;
                }
            }
            return NONE;
        }

        /** The blocks (bits) of which it is so, as it may be heard. */
        private int blocksOf(int what, int v) {
            int bits = 0;
            for (int block = 0; block < BLOCKS; block++) {
                bits |= isSo(block, what, v) ? 1 << block : 0;
            }
            return bits;
        }

        private boolean isSo(int block, int what, int v) {
            if (block < 0 || block >= BLOCKS) {
                return false;
            }
            switch (what) {
                case 0:
                    return kind[block] == v;
                case 1:
                    return wipes[block] >= v;
                case 2:
                    return Integer.bitCount(writtenIn(block)) >= v;
                default:
                    return (foldersIn(block, writtenIn(block)) >> v & 1) != 0;
            }
        }

        // -- leaves

        /** How many leaves are written ahead of the first empty one. */
        private int filled(int block) {
            int n = 0;
            while (n < PLACES && block >= 0 && block < BLOCKS && page[block * PLACES + n] != NONE) {
                n++;
            }
            return n;
        }

        private int writtenIn(int block) {
            int bits = 0;
            for (int leaf = 0; leaf < PLACES && block >= 0 && block < BLOCKS; leaf++) {
                bits |= page[block * PLACES + leaf] != NONE ? 1 << leaf : 0;
            }
            return bits;
        }

        private int latestIn(int block) {
            int bits = 0;
            for (int leaf = 0; leaf < PLACES && block >= 0 && block < BLOCKS; leaf++) {
                int at = block * PLACES + leaf;
                bits |= page[at] != NONE && latestOf(page[at]) == at ? 1 << leaf : 0;
            }
            return bits;
        }

        /** The folders (bits) of some leaves of a block. */
        private int foldersIn(int block, int leaves) {
            int bits = 0;
            for (int leaf = 0; leaf < PLACES && block >= 0 && block < BLOCKS; leaf++) {
                int p = page[block * PLACES + leaf];
                bits |= p != NONE && (leaves >> leaf & 1) != 0 ? 1 << p / PLACES : 0;
            }
            return bits;
        }

        private int writtenLeaves() {
            int all = 0;
            for (int at = 0; at < LEAVES; at++) {
                all += page[at] != NONE ? 1 : 0;
            }
            return all;
        }

        private int latestOf(int p) {
            int best = NONE;
            for (int at = 0; at < LEAVES; at++) {
                if (page[at] == p && (best == NONE || isLater(at, best))) {
                    best = at;
                }
            }
            return best;
        }

        private boolean isLater(int at, int than) {
            if (at < 0 || at >= LEAVES || than < 0 || than >= LEAVES) {
                return false;
            }
            if (stamp[at] != stamp[than]) {
                return stamp[at] > stamp[than];
            }
            // a page stands in no home and no run but those of its folder
            return Math.min(kind[at / PLACES], COLD) < Math.min(kind[than / PLACES], COLD);
        }

        /** The leaf of a page that comes behind another one (NONE: the first), from the greatest stamp down. */
        private int copyBehind(int p, int last) {
            int best = NONE;
            for (int at = 0; at < LEAVES; at++) {
                boolean behind = last < 0 || last >= LEAVES || stamp[at] < stamp[last]
                        || (stamp[at] == stamp[last] && at > last);
                if (page[at] == p && behind && (best == NONE || stamp[at] > stamp[best])) {
                    best = at;
                }
            }
            return best;
        }

        private int valueOf(int p) {
            int at = latestOf(p);
            return at == NONE ? NO_VALUE : value[at];
        }

        private boolean isHot(int p) {
            return p >= 0 && p < PAGES && limit[HOTS] != 0 && warmth[p] >= limit[WARM];
        }

        private int sumOfLeaves() {
            int sum = 7;
            for (int at = 0; at < LEAVES; at++) {
                sum = 31 * sum + (page[at] == NONE ? 0 : 100 * page[at] + 100 + value[at]);
            }
            return sum;
        }

        private int writtenPages() {
            int bits = 0;
            for (int at = 0; at < LEAVES; at++) {
                bits |= page[at] != NONE ? 1 << page[at] : 0;
            }
            return Integer.bitCount(bits);
        }

        /** What the things of a rule are worth, in the order of Rule.THINGS. */
        private int[] thingsNow() {
            things[0] = wear();
            things[1] = howMany(FREE);
            things[2] = tally[WRITES] % 10;
            things[3] = tally[COPIES] % 10;
            things[4] = howMany(COLD) + howMany(HOT);
            // each page that is written has one latest leaf: all others are stale
            things[5] = writtenLeaves() - writtenPages();
            return things;
        }
    }

    /** A rule, read from a text into what a stack needs: things first, then what joins them. */
    private static final class Rule {
        private static final int MOST_SIGNS = 40;
        private static final int MOST_DEPTH = 4;
        private static final int MOST_DIGITS = 3;
        private static final int THINGS_KNOWN = 6;
        private static final String THINGS = "dfwcls";
        /** Codes: numbers stand for themselves, things from here on, joins (by their sign) from there on. */
        private static final int THING = 1000;
        private static final int JOIN = 2000;
        /** The minus ahead of a thing: no sign of a text, so that none can stand for it. */
        private static final int NEGATE = 256;

        private final int[] code = new int[MOST_SIGNS];
        private int size = 0;
        private final int[] stack = new int[MOST_SIGNS];
        private int height = 0;
        private boolean wantsThing = true;
        private int depth = 0;
        /** Bit by depth: there is a comparison in that expression. */
        private int compared = 0;
        private int digits = 0;

        private Rule() {
            code[0] = THING;
            code[1] = 4;
            code[2] = JOIN + '>';
            size = 3;
        }

        /** Where the text is wrong, or NONE: then this is the rule that it tells. */
        private int read(char[] text, int length) {
            size = 0;
            height = 0;
            depth = 0;
            compared = 0;
            digits = 0;
            wantsThing = true;
            if (length < 1) {
                emit(THING);
                emit(4);
                emit(JOIN + '>');
                return NONE;
            }
            for (int p = 0; p < length && p < MOST_SIGNS && p < text.length; p++) {
                if (!goesOnBy(text[p])) {
                    return p;
                }
            }
            if (length > MOST_SIGNS) {
                return MOST_SIGNS;
            }
            if (wantsThing || depth > 0) {
                return length;
            }
            unwind(0);
            return NONE;
        }

        private boolean goesOnBy(char sign) {
            if (sign >= '0' && sign <= '9') {
                return goesOnByDigit(sign - '0');
            }
            digits = 0;
            return wantsThing ? opensThing(sign) : followsThing(sign);
        }

        private boolean goesOnByDigit(int digit) {
            if (wantsThing) {
                emit(digit);
                digits = 1;
                wantsThing = false;
                return true;
            }
            if (digits == 0 || digits >= MOST_DIGITS || size < 1) {
                return false;
            }
            code[size - 1] = 10 * code[size - 1] + digit;
            digits++;
            return true;
        }

        private boolean opensThing(char sign) {
            if (sign == '-') {
                push(NEGATE);
                return true;
            }
            if (sign == '(') {
                if (depth >= MOST_DEPTH) {
                    return false;
                }
                depth++;
                compared &= ~(1 << depth);
                push('(');
                return true;
            }
            int thing = THINGS.indexOf(sign);
            if (thing < 0) {
                return false;
            }
            emit(THING + thing);
            wantsThing = false;
            return true;
        }

        private boolean followsThing(char sign) {
            if (sign == ')') {
                if (depth < 1) {
                    return false;
                }
                depth--;
                unwind(1);
                height = Math.max(0, height - 1);
                return true;
            }
            int binding = bindingOf(sign);
            if (binding == 0) {
                return false;
            }
            if (binding == 1) {
                if ((compared >> depth & 1) != 0) {
                    return false;
                }
                compared |= 1 << depth;
            }
            unwind(binding);
            push(sign);
            wantsThing = true;
            return true;
        }

        /** How fast a join binds; 0 of a sign that joins nothing. */
        private static int bindingOf(int sign) {
            switch (sign) {
                case '<':
                case '>':
                case '=':
                    return 1;
                case '+':
                case '-':
                    return 2;
                case '*':
                case '/':
                    return 3;
                case NEGATE:
                    return 4;
                default:
                    return 0;
            }
        }

        private void emit(int what) {
            if (size < MOST_SIGNS) {
                code[size] = what;
                size++;
            }
        }

        private void push(int what) {
            if (height < MOST_SIGNS) {
                stack[height] = what;
                height++;
            }
        }

        /** Joins that bind as fast, or faster, come ahead of what follows. */
        private void unwind(int binding) {
            while (height > 0 && bindingOf(stack[height - 1]) >= binding) {
                height--;
                emit(JOIN + stack[height]);
            }
        }

        private int worth(int[] things) {
            height = 0;
            for (int i = 0; i < size; i++) {
                int what = code[i];
                if (what < THING) {
                    push(what);
                } else if (what < JOIN) {
                    push(what - THING < things.length ? things[what - THING] : 0);
                } else if (what == JOIN + NEGATE) {
                    if (height > 0) {
                        stack[height - 1] = -stack[height - 1];
                    }
                } else if (height > 1) {
                    height--;
                    stack[height - 1] = joined(what - JOIN, stack[height - 1], stack[height]);
                }
            }
            return height > 0 ? stack[0] : 0;
        }

        private static int joined(int sign, int a, int b) {
            switch (sign) {
                case '<':
                    return a < b ? 1 : 0;
                case '>':
                    return a > b ? 1 : 0;
                case '=':
                    return a == b ? 1 : 0;
                case '+':
                    return a + b;
                case '-':
                    return a - b;
                case '*':
                    return a * b;
                default:
                    return b == 0 ? 0 : a / b;
            }
        }
    }
}

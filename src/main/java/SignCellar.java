import java.util.Arrays;

/**
 * Rows of SIGNS kept in BLOCKS that VERSIONS share, squeezed by five KINDS and still asked.
 * The words in capitals are those of the document.
 */
public final class SignCellar {
    public static final int NONE = -1, UNKNOWN = -100001, OUTSIDE = -100002, NOT = -100003, FULL = -100004, TORN = -100005;

    private static final int SIGNS = 16;
    private static final int SIGN_BITS = 4;
    private static final int FEED_MOST = 15;
    private static final int DRAFT_ROOM = 96;
    private static final int PATTERN_ROOM = 12;
    private static final int SET_MOST = 65535;
    private static final int SLIPS_MOST = 3;
    private static final int BLOCKS_MOST = 200;
    private static final int VERSIONS_MOST = 30;
    private static final int ROW_MOST = 8;
    private static final int BLOCK_MOST = 24;
    private static final int BLOCK_MADE = 16;
    private static final int BLOCK_HALF = 12;
    private static final int KINDS = 5;
    private static final int TIME_MOST = 9999;
    /** No KIND takes more TIME for a SIGN than ODDS do. */
    private static final int DEAREST_TIME = 6;
    private static final int WAYS_MOST = 20;
    /** No long is greater than so many bits can tell apart. */
    private static final int LONG_BITS = 63;
    private static final int SENT_WHOLE = 3;
    private static final int SENT_NAMED = 4;
    private static final int PRIME = 17;
    private static final int NO_SIGN = 16;
    /** What times its place is 1, by 17; two BLOCKS of a VERSION are at most seven apart. */
    private static final int[] INVERSE = {0, 1, 9, 6, 13, 7, 3, 5};

    private final Row draft = new Row(DRAFT_ROOM);
    private final Row pattern = new Row(PATTERN_ROOM);
    private final Block[] blocks = new Block[BLOCKS_MOST];
    private int blockCount = 0;
    private final Version[] versions = new Version[VERSIONS_MOST];
    private int versionCount = 0;

    /** Rows that calls fill anew and use again, so that no call makes its own. */
    private final Row planned = new Row(ROW_MOST);
    private int plannedNew = 0;
    private final Row spelled = new Row(BLOCK_MOST + 1);
    private final Row opened = new Row(ROW_MOST * BLOCK_MOST);
    private final int[][] common = new int[ROW_MOST + 1][ROW_MOST + 1];

    private final Mates mates = new Mates();
    private final Rules rules = new Rules();
    private final Odds odds = new Odds();
    private final Turns turns = new Turns();
    private final Choice choice = new Choice();

    public SignCellar() {
    }

    // ---- drafts, versions

    public int feed(int n, long signs) {
        if (n < 1 || n > FEED_MOST) {
            return OUTSIDE;
        }
        if (draft.length() + n > DRAFT_ROOM) {
            return FULL;
        }
        for (int i = n - 1; i >= 0; i--) {
            draft.add((int) (signs >> (SIGN_BITS * i)) & (SIGNS - 1));
        }
        return draft.length();
    }

    public int make() {
        int n = draft.length();
        if (n == 0) {
            return NOT;
        }
        if (!hasRoom((n + BLOCK_MADE - 1) / BLOCK_MADE)) {
            return FULL;
        }
        startPlan();
        for (int from = 0; from < n; from += BLOCK_MADE) {
            planBlock(draft, from, Math.min(n, from + BLOCK_MADE));
        }
        draft.empty();
        return keepPlan(NONE);
    }

    public int change(int v, int place, int sign) {
        Version version = versionOf(v);
        if (version == null || place < 0 || place >= version.signs) {
            return UNKNOWN;
        }
        if (!isSign(sign)) {
            return OUTSIDE;
        }
        if (!hasRoom(1)) {
            return FULL;
        }
        return edited(v, place, sign, 1);
    }

    public int put(int v, int place, int sign) {
        Version version = versionOf(v);
        if (version == null || place < 0 || place > version.signs) {
            return UNKNOWN;
        }
        if (!isSign(sign)) {
            return OUTSIDE;
        }
        boolean splits = lengthIn(version, indexAt(version, place)) == BLOCK_MOST;
        if (!hasRoom(splits ? 2 : 1) || (splits && version.row.length() == ROW_MOST)) {
            return FULL;
        }
        return edited(v, place, sign, 0);
    }

    public int strike(int v, int place) {
        Version version = versionOf(v);
        if (version == null || place < 0 || place >= version.signs) {
            return UNKNOWN;
        }
        boolean vanishes = lengthIn(version, indexAt(version, place)) == 1;
        if (!hasRoom(vanishes ? 0 : 1)) {
            return FULL;
        }
        return edited(v, place, NONE, 1);
    }

    public int about(int v, int what) {
        Version version = versionOf(v);
        if (version == null) {
            return UNKNOWN;
        }
        switch (what) {
            case 0: return version.signs;
            case 1: return version.row.length();
            case 2: return version.parent;
            case 3: return version.fresh;
            case 4: return tornBlocks(version);
            default: return OUTSIDE;
        }
    }

    public int block(int v, int i) {
        Version version = versionOf(v);
        return version == null ? UNKNOWN : version.row.at(i);
    }

    public int open(int v, int place) {
        Version version = versionOf(v);
        if (version == null || place < 0 || place >= version.signs) {
            return UNKNOWN;
        }
        int index = indexAt(version, place);
        if (isTornIn(version, index)) {
            return TORN;
        }
        return signIn(version, index, place - startOf(version, index));
    }

    public int told(int b, int what) {
        Block block = blockOf(b);
        if (block == null) {
            return UNKNOWN;
        }
        switch (what) {
            case 0: return block.signs.length();
            case 1: return block.torn ? 1 : 0;
            case 2: return versionsWith(b);
            default: return OUTSIDE;
        }
    }

    public int count(int what) {
        switch (what) {
            case 0: return draft.length();
            case 1: return versionCount;
            case 2: return blockCount;
            case 3: return allTorn();
            case 4: return pattern.length();
            case 5: return signsOfBlocks();
            case 6: return signsOfVersions();
            default: return OUTSIDE;
        }
    }

    public int share(int v, int w) {
        Version one = versionOf(v);
        Version other = versionOf(w);
        if (one == null || other == null) {
            return UNKNOWN;
        }
        int shared = 0;
        for (int i = 0; i < one.row.length(); i++) {
            int b = one.row.at(i);
            if (other.row.has(b) && one.row.firstOf(b) == i) {
                shared++;
            }
        }
        return shared;
    }

    // ---- squeezing

    public int size(int b, int kind) {
        Block block = blockOf(b);
        int refusal = refusalOfKind(block, kind);
        if (block == null || refusal != 0) {
            return refusal;
        }
        weigh(block);
        return block.sizes.at(kind);
    }

    public int time(int b, int kind) {
        Block block = blockOf(b);
        int refusal = refusalOfKind(block, kind);
        if (block == null || refusal != 0) {
            return refusal;
        }
        weigh(block);
        return block.times.at(kind);
    }

    public int cut(int b, int i) {
        Block block = blockOf(b);
        if (block == null) {
            return UNKNOWN;
        }
        if (block.torn) {
            return TORN;
        }
        mates.squeeze(block.signs);
        return i == NONE ? mates.pieces.length() : mates.pieces.at(i);
    }

    public int rule(int b, int what, int i) {
        Block block = blockOf(b);
        if (block == null) {
            return UNKNOWN;
        }
        if (what < 0 || (what > 4 && what < 10)) {
            return OUTSIDE;
        }
        if (block.torn) {
            return TORN;
        }
        rules.squeeze(block.signs);
        switch (what) {
            case 0: return rules.row.length();
            case 1: return rules.left();
            case 2: return rules.grown;
            case 3: return rules.row.at(i);
            case 4: return rules.lengthOf(i);
            default: return rules.pieceOf(i, what - 10);
        }
    }

    public int bit(int b, int i) {
        Block block = blockOf(b);
        if (block == null) {
            return UNKNOWN;
        }
        if (block.torn) {
            return TORN;
        }
        odds.squeeze(block.signs);
        return odds.bits.at(i);
    }

    public int turned(int b, int what, int i) {
        Block block = blockOf(b);
        if (block == null) {
            return UNKNOWN;
        }
        if (what < 0 || what > 2) {
            return OUTSIDE;
        }
        if (block.torn) {
            return TORN;
        }
        turns.squeeze(block.signs);
        switch (what) {
            case 0: return turns.end;
            case 1: return turns.lasts.at(i);
            default: return turns.places.at(i);
        }
    }

    public int best(int v, int t, int i) {
        Version version = versionOf(v);
        if (version == null) {
            return UNKNOWN;
        }
        if (t < 0 || t > TIME_MOST || i < -2) {
            return OUTSIDE;
        }
        if (tornBlocks(version) > 0) {
            return TORN;
        }
        choice.begin();
        for (int at = 0; at < version.row.length(); at++) {
            Block block = blockOf(version.row.at(at));
            if (block != null) {
                weigh(block);
                choice.addBlock(block);
            }
        }
        if (!choice.choose(t)) {
            return NOT;
        }
        if (i == NONE) {
            return choice.allSize;
        }
        return i == -2 ? choice.allTime : choice.kinds.at(i);
    }

    // ---- asking

    public int sign(int set) {
        if (set < 1 || set > SET_MOST) {
            return OUTSIDE;
        }
        if (pattern.length() == PATTERN_ROOM) {
            return FULL;
        }
        pattern.add(set);
        return pattern.length();
    }

    public int clear() {
        int had = pattern.length();
        pattern.empty();
        return had;
    }

    public int seek(int v, int k, int i) {
        Version version = versionOf(v);
        if (version == null) {
            return UNKNOWN;
        }
        if (k < 0 || k > SLIPS_MOST) {
            return OUTSIDE;
        }
        if (pattern.length() == 0) {
            return NOT;
        }
        if (tornBlocks(version) > 0) {
            return TORN;
        }
        openAll(version);
        int found = 0;
        for (int place = 0; place + pattern.length() <= opened.length(); place++) {
            if (slipsAt(place) <= k) {
                if (found == i) {
                    return place;
                }
                found++;
            }
        }
        return i == NONE ? found : NONE;
    }

    public int span(int v, int a, int b, int what) {
        Version version = versionOf(v);
        if (version == null || a < 0 || b > version.signs || a >= b) {
            return UNKNOWN;
        }
        if (what < 0 || what > 3) {
            return OUTSIDE;
        }
        for (int i = indexAt(version, a); i <= indexAt(version, b - 1); i++) {
            if (isTornIn(version, i)) {
                return TORN;
            }
        }
        openAll(version);
        switch (what) {
            case 0: return opened.sum(a, b);
            case 1: return opened.least(a, b);
            case 2: return opened.greatest(a, b);
            default: return mostOften(a, b);
        }
    }

    // ---- torn, sent, bounds

    public int tear(int b) {
        Block block = blockOf(b);
        if (block == null) {
            return UNKNOWN;
        }
        if (block.torn) {
            return NOT;
        }
        block.lose();
        return 1;
    }

    public int sums(int v, int what, int k) {
        Version version = versionOf(v);
        if (version == null) {
            return UNKNOWN;
        }
        if (what < 0 || what > 1 || k < 0 || k >= BLOCK_MOST) {
            return OUTSIDE;
        }
        return what == 0 ? version.plainSums.at(k) : version.timesSums.at(k);
    }

    public int restore(int v) {
        Version version = versionOf(v);
        if (version == null) {
            return UNKNOWN;
        }
        int torn = tornBlocks(version);
        if (torn < 1 || torn > 2) {
            return NOT;
        }
        int former = nextTorn(version, 0);
        int latter = nextTorn(version, former + 1);
        if (version.row.at(former) == version.row.at(latter)) {
            return NOT;
        }
        solve(version, former, latter);
        return torn;
    }

    public int send(int v, int w, int what) {
        Version had = versionOf(v);
        Version sent = versionOf(w);
        if (had == null || sent == null) {
            return UNKNOWN;
        }
        switch (what) {
            case 0: return sentBits(had, sent);
            case 1: return sentWhole(had, sent);
            case 2: return had.row.length() + sent.row.length() - 2 * inCommon(had.row, sent.row);
            default: return OUTSIDE;
        }
    }

    public long ways(int b) {
        Block block = blockOf(b);
        int refusal = refusalOfWays(block);
        if (block == null || refusal != 0) {
            return refusal;
        }
        return waysOf(block.signs);
    }

    public int bound(int b) {
        Block block = blockOf(b);
        int refusal = refusalOfWays(block);
        if (block == null || refusal != 0) {
            return refusal;
        }
        long ways = waysOf(block.signs);
        int bits = 0;
        while (bits < LONG_BITS && 1L << bits < ways) {
            bits++;
        }
        return bits;
    }

    public int entropy(int b, int k) {
        Block block = blockOf(b);
        if (block == null) {
            return UNKNOWN;
        }
        if (k != NONE && !isSign(k)) {
            return OUTSIDE;
        }
        if (block.torn) {
            return TORN;
        }
        return k == NONE ? block.signs.length() : block.signs.times(k);
    }

    // ---- what there is

    private static boolean isSign(int sign) {
        return sign >= 0 && sign < SIGNS;
    }

    private Block blockOf(int b) {
        return b >= 0 && b < blockCount && b < blocks.length ? blocks[b] : null;
    }

    private Version versionOf(int v) {
        return v >= 0 && v < versionCount && v < versions.length ? versions[v] : null;
    }

    /** Which BLOCK of the row holds the PLACE; the last one for the PLACE behind all, 0 if there is none. */
    private int indexAt(Version version, int place) {
        int end = 0;
        for (int i = 0; i < version.row.length(); i++) {
            end += lengthIn(version, i);
            if (place < end) {
                return i;
            }
        }
        return Math.max(0, version.row.length() - 1);
    }

    private int startOf(Version version, int index) {
        int start = 0;
        for (int i = 0; i < index && i < version.row.length(); i++) {
            start += lengthIn(version, i);
        }
        return start;
    }

    private int lengthIn(Version version, int index) {
        Block block = blockOf(version.row.at(index));
        return block == null ? 0 : block.signs.length();
    }

    private boolean isTornIn(Version version, int index) {
        Block block = blockOf(version.row.at(index));
        return block != null && block.torn;
    }

    private int signIn(Version version, int index, int offset) {
        Block block = blockOf(version.row.at(index));
        return block == null ? NONE : block.signs.at(offset);
    }

    private int tornBlocks(Version version) {
        int torn = 0;
        for (int i = 0; i < version.row.length(); i++) {
            if (isTornIn(version, i)) {
                torn++;
            }
        }
        return torn;
    }

    private int nextTorn(Version version, int from) {
        for (int i = Math.max(0, from); i < version.row.length(); i++) {
            if (isTornIn(version, i)) {
                return i;
            }
        }
        return NONE;
    }

    private int versionsWith(int b) {
        int with = 0;
        for (int v = 0; v < versionCount; v++) {
            Version version = versionOf(v);
            if (version != null && version.row.has(b)) {
                with++;
            }
        }
        return with;
    }

    private int allTorn() {
        int torn = 0;
        for (int b = 0; b < blockCount; b++) {
            Block block = blockOf(b);
            if (block != null && block.torn) {
                torn++;
            }
        }
        return torn;
    }

    private int signsOfBlocks() {
        int signs = 0;
        for (int b = 0; b < blockCount; b++) {
            Block block = blockOf(b);
            if (block != null) {
                signs += block.signs.length();
            }
        }
        return signs;
    }

    private int signsOfVersions() {
        int signs = 0;
        for (int v = 0; v < versionCount; v++) {
            Version version = versionOf(v);
            if (version != null) {
                signs += version.signs;
            }
        }
        return signs;
    }

    // ---- making versions

    private boolean hasRoom(int blocksToMake) {
        return versionCount < VERSIONS_MOST && blockCount + blocksToMake <= BLOCKS_MOST;
    }

    /**
     * The VERSION that version v becomes where, at the PLACE, so many SIGNS are skipped
     * and the SIGN (if there is one) stands instead; the callers have seen that there is room.
     */
    private int edited(int v, int place, int sign, int skipped) {
        Version version = versionOf(v);
        if (version == null) {
            return UNKNOWN;
        }
        if (tornBlocks(version) > 0) {
            return TORN;
        }
        int index = indexAt(version, place);
        spell(version, index, place - startOf(version, index), sign, skipped);
        startPlan();
        planned.addPart(version.row, 0, index);
        planSpelled();
        planned.addPart(version.row, index + 1, version.row.length());
        return keepPlan(v);
    }

    private void spell(Version version, int index, int offset, int sign, int skipped) {
        Block block = blockOf(version.row.at(index));
        spelled.empty();
        if (block != null) {
            spelled.addPart(block.signs, 0, offset);
        }
        if (sign != NONE) {
            spelled.add(sign);
        }
        if (block != null) {
            spelled.addPart(block.signs, offset + skipped, block.signs.length());
        }
    }

    private void startPlan() {
        planned.empty();
        plannedNew = 0;
    }

    private void planSpelled() {
        int n = spelled.length();
        int middle = n > BLOCK_MOST ? BLOCK_HALF : n;
        planBlock(spelled, 0, middle);
        planBlock(spelled, middle, n);
    }

    private void planBlock(Row from, int a, int b) {
        if (a >= b) {
            return;
        }
        int same = blockLike(from, a, b);
        if (same == NONE && blockCount < blocks.length) {
            same = blockCount;
            blocks[blockCount] = new Block(from, a, b);
            blockCount++;
            plannedNew++;
        }
        planned.add(same);
    }

    private int blockLike(Row from, int a, int b) {
        for (int k = 0; k < blockCount; k++) {
            Block block = blockOf(k);
            if (block != null && !block.torn && block.signs.isPart(from, a, b)) {
                return k;
            }
        }
        return NONE;
    }

    private int keepPlan(int parent) {
        if (versionCount >= versions.length) {
            return FULL;
        }
        int v = versionCount;
        Version version = new Version(planned, parent, plannedNew);
        for (int i = 0; i < planned.length(); i++) {
            version.signs += lengthIn(version, i);
        }
        addUp(version);
        versions[v] = version;
        versionCount++;
        return v;
    }

    // ---- sums

    private void addUp(Version version) {
        for (int k = 0; k < BLOCK_MOST; k++) {
            int plain = 0;
            int times = 0;
            for (int i = 0; i < version.row.length(); i++) {
                int number = numberIn(version, i, k);
                plain += number;
                times += (i + 1) * number;
            }
            version.plainSums.add(plain % PRIME);
            version.timesSums.add(times % PRIME);
        }
    }

    private int numberIn(Version version, int index, int k) {
        int sign = signIn(version, index, k);
        return sign == NONE ? NO_SIGN : sign;
    }

    /** With x in the former and y in the latter: the sums less all known are x + y and (former + 1) x + (latter + 1) y. */
    private void solve(Version version, int former, int latter) {
        Block first = blockOf(version.row.at(former));
        Block second = blockOf(version.row.at(latter));
        for (int k = 0; k < BLOCK_MOST; k++) {
            int plain = version.plainSums.at(k);
            int times = version.timesSums.at(k);
            for (int i = 0; i < version.row.length(); i++) {
                if (i != former && i != latter) {
                    plain -= numberIn(version, i, k);
                    times -= (i + 1) * numberIn(version, i, k);
                }
            }
            int y = 0;
            if (second != null) {
                y = Math.floorMod((times - (former + 1) * plain) * inverse(latter - former), PRIME);
                second.signs.set(k, y);
            }
            if (first != null) {
                first.signs.set(k, Math.floorMod(plain - y, PRIME));
            }
        }
        mend(first);
        mend(second);
    }

    private static int inverse(int gap) {
        return gap >= 0 && gap < INVERSE.length ? INVERSE[gap] : 0;
    }

    private static void mend(Block block) {
        if (block != null) {
            block.torn = false;
        }
    }

    // ---- squeezing, asking, sending

    private static int refusalOfKind(Block block, int kind) {
        if (block == null) {
            return UNKNOWN;
        }
        if (kind < 0 || kind >= KINDS) {
            return OUTSIDE;
        }
        return block.torn ? TORN : 0;
    }

    private static int refusalOfWays(Block block) {
        if (block == null) {
            return UNKNOWN;
        }
        if (block.signs.length() > WAYS_MOST) {
            return NOT;
        }
        return block.torn ? TORN : 0;
    }

    /** Once for each BLOCK, as BLOCKS never change. */
    private void weigh(Block block) {
        if (block.sizes.length() > 0) {
            return;
        }
        int n = block.signs.length();
        mates.squeeze(block.signs);
        rules.squeeze(block.signs);
        odds.squeeze(block.signs);
        turns.squeeze(block.signs);
        block.addWeight(SIGN_BITS * n, n);
        block.addWeight(mates.price(), mates.pieces.length() + n);
        block.addWeight(rules.price(), 2 * n + rules.left());
        block.addWeight(odds.bits.length(), DEAREST_TIME * n);
        block.addWeight(turns.price(), 3 * n);
    }

    private void openAll(Version version) {
        opened.empty();
        for (int i = 0; i < version.row.length(); i++) {
            Block block = blockOf(version.row.at(i));
            if (block != null) {
                opened.addPart(block.signs, 0, block.signs.length());
            }
        }
    }

    private int slipsAt(int place) {
        int slips = 0;
        for (int j = 0; j < pattern.length(); j++) {
            if ((pattern.at(j) >> opened.at(place + j) & 1) == 0) {
                slips++;
            }
        }
        return slips;
    }

    private int mostOften(int a, int b) {
        int most = 0;
        int which = 0;
        for (int sign = 0; sign < SIGNS; sign++) {
            int times = opened.timesWithin(sign, a, b);
            if (times > most) {
                most = times;
                which = sign;
            }
        }
        return which;
    }

    private static boolean goesWhole(Version had, Version sent, int index) {
        int b = sent.row.at(index);
        return !had.row.has(b) && sent.row.firstOf(b) == index;
    }

    private int sentBits(Version had, Version sent) {
        int bits = 0;
        for (int i = 0; i < sent.row.length(); i++) {
            bits += goesWhole(had, sent, i) ? SIGN_BITS * lengthIn(sent, i) + SENT_WHOLE : SENT_NAMED;
        }
        return bits;
    }

    private static int sentWhole(Version had, Version sent) {
        int whole = 0;
        for (int i = 0; i < sent.row.length(); i++) {
            if (goesWhole(had, sent, i)) {
                whole++;
            }
        }
        return whole;
    }

    /** The longest row that stands in both in order; all else has to be put in or struck out. */
    private int inCommon(Row one, Row other) {
        int n = Math.min(one.length(), ROW_MOST);
        int m = Math.min(other.length(), ROW_MOST);
        for (int i = 1; i <= n; i++) {
            for (int j = 1; j <= m; j++) {
                common[i][j] = one.at(i - 1) == other.at(j - 1)
                        ? common[i - 1][j - 1] + 1
                        : Math.max(common[i - 1][j], common[i][j - 1]);
            }
        }
        return common[n][m];
    }

    /** SIGN by SIGN: each step is a whole number, as it is a number of ways too. */
    private static long waysOf(Row signs) {
        long ways = 1;
        int placed = 0;
        for (int sign = 0; sign < SIGNS; sign++) {
            int times = signs.times(sign);
            for (int c = 1; c <= times; c++) {
                placed++;
                ways = ways * placed / c;
            }
        }
        return ways;
    }

    /** A row of numbers with a told room; what is not there is NONE, what has no room is left out. */
    private static final class Row {
        private final int[] items;
        private int length = 0;

        Row(int room) {
            items = new int[Math.max(0, room)];
        }

        int length() {
            return length;
        }

        int at(int i) {
            return i >= 0 && i < length && i < items.length ? items[i] : NONE;
        }

        void set(int i, int item) {
            if (i >= 0 && i < length && i < items.length) {
                items[i] = item;
            }
        }

        void add(int item) {
            if (length >= 0 && length < items.length) {
                items[length] = item;
                length++;
            }
        }

        void empty() {
            length = 0;
        }

        void addPart(Row from, int a, int b) {
            for (int i = Math.max(0, a); i < b && i < from.length; i++) {
                add(from.at(i));
            }
        }

        void become(Row other) {
            empty();
            addPart(other, 0, other.length);
        }

        boolean isPart(Row from, int a, int b) {
            if (length != b - a) {
                return false;
            }
            for (int i = 0; i < length; i++) {
                if (at(i) != from.at(a + i)) {
                    return false;
                }
            }
            return true;
        }

        int firstOf(int item) {
            for (int i = 0; i < length; i++) {
                if (at(i) == item) {
                    return i;
                }
            }
            return NONE;
        }

        boolean has(int item) {
            return firstOf(item) != NONE;
        }

        int times(int item) {
            return timesWithin(item, 0, length);
        }

        int timesWithin(int item, int a, int b) {
            int times = 0;
            for (int i = a; i < b; i++) {
                if (at(i) == item) {
                    times++;
                }
            }
            return times;
        }

        int sum(int a, int b) {
            int sum = 0;
            for (int i = a; i < b; i++) {
                sum += at(i);
            }
            return sum;
        }

        int least(int a, int b) {
            int least = at(a);
            for (int i = a; i < b; i++) {
                least = Math.min(least, at(i));
            }
            return least;
        }

        int greatest(int a, int b) {
            int greatest = at(a);
            for (int i = a; i < b; i++) {
                greatest = Math.max(greatest, at(i));
            }
            return greatest;
        }
    }

    /** A BLOCK; while it is torn its SIGNS are gone and only how many there are is known. */
    private static final class Block {
        private final Row signs;
        private final Row sizes = new Row(KINDS);
        private final Row times = new Row(KINDS);
        private boolean torn = false;

        Block(Row from, int a, int b) {
            signs = new Row(b - a);
            signs.addPart(from, a, b);
        }

        void addWeight(int bits, int duration) {
            sizes.add(bits);
            times.add(duration);
        }

        void lose() {
            torn = true;
            for (int i = 0; i < signs.length(); i++) {
                signs.set(i, 0);
            }
        }
    }

    /** A VERSION: the numbers of its BLOCKS, and the SUMS that outlast a torn BLOCK. */
    private static final class Version {
        private final Row row;
        private final int parent;
        private final int fresh;
        private int signs = 0;
        private final Row plainSums = new Row(BLOCK_MOST);
        private final Row timesSums = new Row(BLOCK_MOST);

        Version(Row planned, int parent, int fresh) {
            row = new Row(planned.length());
            row.addPart(planned, 0, planned.length());
            this.parent = parent;
            this.fresh = fresh;
        }
    }

    /** KIND 1: the cheapest cut, worked out from the right end to the left. */
    private static final class Mates {
        private static final int LONE_PRICE = 5;
        private static final int MATE_PRICE = 11;
        private static final int SHORTEST = 2;
        private static final int LONGEST = 9;
        private static final int FARTHEST = 15;
        private static final int LENGTH_STEP = 16;

        private final int[] least = new int[BLOCK_MOST + 1];
        private final int[] first = new int[BLOCK_MOST + 1];
        private final int[] nearest = new int[LONGEST + 1];
        private final Row pieces = new Row(BLOCK_MOST);

        void squeeze(Row signs) {
            int n = Math.min(signs.length(), BLOCK_MOST);
            least[n] = 0;
            for (int p = n - 1; p >= 0; p--) {
                choosePiece(signs, n, p);
            }
            pieces.empty();
            for (int p = 0; p < n; p += Math.max(1, first[p] / LENGTH_STEP)) {
                pieces.add(first[p]);
            }
        }

        int price() {
            return least[0];
        }

        /** Pieces are tried in the order in which like prices are told apart, so a later one has to be cheaper. */
        private void choosePiece(Row signs, int n, int p) {
            least[p] = LONE_PRICE + least[p + 1];
            first[p] = 0;
            findNearest(signs, n, p);
            for (int length = SHORTEST; length <= LONGEST && p + length <= n; length++) {
                int price = MATE_PRICE + least[p + length];
                if (nearest[length] > 0 && price < least[p]) {
                    least[p] = price;
                    first[p] = LENGTH_STEP * length + nearest[length];
                }
            }
        }

        private void findNearest(Row signs, int n, int p) {
            Arrays.fill(nearest, 0);
            for (int back = Math.min(p, FARTHEST); back >= 1; back--) {
                for (int length = 1; length <= LONGEST && p + length <= n; length++) {
                    if (signs.at(p + length - 1) != signs.at(p + length - 1 - back)) {
                        break;
                    }
                    nearest[length] = back;
                }
            }
        }
    }

    /** KIND 2: RULES that grow by pairs and are cleaned; a RULE without pieces is not left. */
    private static final class Rules {
        private static final int RULES_MOST = 12;
        private static final int PIECE_PRICE = 5;

        private final Row row = new Row(BLOCK_MOST);
        private final Row[] parts = new Row[RULES_MOST];
        private final Row spare = new Row(BLOCK_MOST);
        private int grown = 0;
        private int former = NONE;
        private int latter = NONE;

        Rules() {
            for (int k = 0; k < parts.length; k++) {
                parts[k] = new Row(BLOCK_MOST);
            }
        }

        void squeeze(Row signs) {
            row.become(signs);
            grown = 0;
            for (int k = 0; k < parts.length && findPair(); k++) {
                parts[k].empty();
                parts[k].add(former);
                parts[k].add(latter);
                join(SIGNS + k);
                grown++;
            }
            for (int k = grown - 1; k >= 0; k--) {
                if (standing(SIGNS + k) < 2) {
                    putBack(k);
                }
            }
        }

        int left() {
            int left = 0;
            for (int k = 0; k < grown; k++) {
                if (lengthOf(k) > 0) {
                    left++;
                }
            }
            return left;
        }

        int price() {
            int price = PIECE_PRICE * row.length() + left();
            for (int k = 0; k < grown; k++) {
                price += PIECE_PRICE * lengthOf(k);
            }
            return price;
        }

        int lengthOf(int k) {
            return k >= 0 && k < grown && k < parts.length ? parts[k].length() : NONE;
        }

        int pieceOf(int k, int i) {
            return k >= 0 && k < grown && k < parts.length ? parts[k].at(i) : NONE;
        }

        private boolean findPair() {
            int most = 1;
            for (int i = 0; i + 1 < row.length(); i++) {
                int a = row.at(i);
                int b = row.at(i + 1);
                int times = timesOf(a, b);
                boolean ahead = a < former || (a == former && b < latter);
                if (times > most || (times == most && most > 1 && ahead)) {
                    most = times;
                    former = a;
                    latter = b;
                }
            }
            return most > 1;
        }

        private int timesOf(int a, int b) {
            int times = 0;
            for (int i = 0; i + 1 < row.length(); i++) {
                if (row.at(i) == a && row.at(i + 1) == b) {
                    times++;
                    i++;
                }
            }
            return times;
        }

        private void join(int piece) {
            spare.empty();
            for (int i = 0; i < row.length(); i++) {
                if (row.at(i) == former && row.at(i + 1) == latter) {
                    spare.add(piece);
                    i++;
                } else {
                    spare.add(row.at(i));
                }
            }
            row.become(spare);
        }

        private int standing(int piece) {
            int times = row.times(piece);
            for (int k = 0; k < grown && k < parts.length; k++) {
                times += parts[k].times(piece);
            }
            return times;
        }

        private void putBack(int k) {
            expand(row, k);
            for (int j = 0; j < grown && j < parts.length; j++) {
                if (j != k) {
                    expand(parts[j], k);
                }
            }
            parts[k].empty();
        }

        private void expand(Row target, int k) {
            spare.empty();
            for (int i = 0; i < target.length(); i++) {
                if (target.at(i) == SIGNS + k) {
                    spare.addPart(parts[k], 0, parts[k].length());
                } else {
                    spare.add(target.at(i));
                }
            }
            target.become(spare);
        }
    }

    /** KIND 3: whole odds that learn, CODED into bits. */
    private static final class Odds {
        private static final int TOP = 65535;
        private static final int HALF = 32768;
        private static final int QUARTER = 16384;
        /** Far above what 24 SIGNS can take, each with odds of 1 in 39 at worst. */
        private static final int BITS_ROOM = 256;
        /** A step doubles the span between low and high, so fewer than 17 are ever taken. */
        private static final int STEPS_MOST = 64;

        private final int[] odds = new int[SIGNS];
        private final Row bits = new Row(BITS_ROOM);
        private int low = 0;
        private int high = TOP;
        private int putOff = 0;

        void squeeze(Row signs) {
            bits.empty();
            low = 0;
            high = TOP;
            putOff = 0;
            for (int i = 0; i < signs.length(); i++) {
                learn(signs, i);
                narrow(signs.at(i));
                widen();
            }
            putOff++;
            emit(low < QUARTER ? 0 : 1);
        }

        private void learn(Row signs, int i) {
            Arrays.fill(odds, 1);
            for (int j = 1; j < i; j++) {
                int sign = signs.at(j);
                if (signs.at(j - 1) == signs.at(i - 1) && sign >= 0 && sign < odds.length) {
                    odds[sign]++;
                }
            }
        }

        private void narrow(int sign) {
            int all = 0;
            int lesser = 0;
            int own = 0;
            for (int s = 0; s < odds.length; s++) {
                all += odds[s];
                if (s < sign) {
                    lesser += odds[s];
                } else if (s == sign) {
                    own = odds[s];
                }
            }
            if (all < 1) {
                return;
            }
            int range = high - low + 1;
            high = low + range * (lesser + own) / all - 1;
            low = low + range * lesser / all;
        }

        private void widen() {
            for (int step = 0; step < STEPS_MOST; step++) {
                int off = 0;
                if (high < HALF) {
                    emit(0);
                } else if (low >= HALF) {
                    emit(1);
                    off = HALF;
                } else if (low >= QUARTER && high < HALF + QUARTER) {
                    putOff++;
                    off = QUARTER;
                } else {
                    return;
                }
                low = 2 * (low - off);
                high = 2 * (high - off) + 1;
            }
        }

        private void emit(int bit) {
            bits.add(bit);
            for (int i = 0; i < putOff; i++) {
                bits.add(1 - bit);
            }
            putOff = 0;
        }
    }

    /** KIND 4: the last ones of all sorted turns, told as places in a row of SIGNS that is led by the latest. */
    private static final class Turns {
        private static final int END_PRICE = 5;

        private final int[] starts = new int[BLOCK_MOST + 1];
        private final int[] front = new int[SIGNS];
        private final Row lasts = new Row(BLOCK_MOST);
        private final Row places = new Row(BLOCK_MOST);
        private int end = NONE;

        void squeeze(Row signs) {
            int n = Math.min(signs.length(), BLOCK_MOST);
            sort(signs, n);
            lasts.empty();
            for (int i = 0; i <= n; i++) {
                if (starts[i] == 0) {
                    end = i;
                } else {
                    lasts.add(signs.at(starts[i] - 1));
                }
            }
            findPlaces();
        }

        int price() {
            int price = END_PRICE;
            for (int i = 0; i < places.length(); i++) {
                price += placePrice(places.at(i));
            }
            return price;
        }

        private static int placePrice(int v) {
            int price = 1;
            for (int left = v + 1; left > 1; left /= 2) {
                price += 2;
            }
            return price;
        }

        private void sort(Row signs, int n) {
            for (int start = 0; start <= n; start++) {
                int i = start;
                while (i > 0 && isAhead(signs, start, starts[i - 1])) {
                    starts[i] = starts[i - 1];
                    i--;
                }
                starts[i] = start;
            }
        }

        /** The end is in each turn once, so that turns differ there at the latest; behind the SIGNS stands NONE, less than all. */
        private static boolean isAhead(Row signs, int one, int other) {
            for (int i = 0; i <= signs.length(); i++) {
                int a = signs.at(one + i);
                int b = signs.at(other + i);
                if (a != b) {
                    return a < b;
                }
            }
            return false;
        }

        private void findPlaces() {
            for (int s = 0; s < front.length; s++) {
                front[s] = s;
            }
            places.empty();
            for (int i = 0; i < lasts.length(); i++) {
                places.add(toFront(lasts.at(i)));
            }
        }

        private int toFront(int sign) {
            int place = 0;
            while (place < front.length - 1 && front[place] != sign) {
                place++;
            }
            for (int j = place; j > 0; j--) {
                front[j] = front[j - 1];
            }
            front[0] = sign;
            return place;
        }
    }

    /** THE BEST: the least SIZE for the BLOCKS from each one on, within each TIME. */
    private static final class Choice {
        private static final int ALL_TIME_MOST = DEAREST_TIME * BLOCK_MOST * ROW_MOST;
        private static final int TOO_LONG = 1000000;

        private final Row sizes = new Row(ROW_MOST * KINDS);
        private final Row times = new Row(ROW_MOST * KINDS);
        private final int[][] least = new int[ROW_MOST + 1][ALL_TIME_MOST + 1];
        private final Row kinds = new Row(ROW_MOST);
        private int allSize = 0;
        private int allTime = 0;

        void begin() {
            sizes.empty();
            times.empty();
        }

        void addBlock(Block block) {
            sizes.addPart(block.sizes, 0, KINDS);
            times.addPart(block.times, 0, KINDS);
        }

        boolean choose(int t) {
            int n = Math.min(sizes.length() / KINDS, ROW_MOST);
            int within = Math.max(0, Math.min(t, Math.min(timeOfSmallest(n), ALL_TIME_MOST)));
            for (int left = 0; left <= within; left++) {
                least[n][left] = 0;
            }
            for (int i = n - 1; i >= 0; i--) {
                for (int left = 0; left <= within; left++) {
                    least[i][left] = leastFrom(i, left);
                }
            }
            if (least[0][within] >= TOO_LONG) {
                return false;
            }
            tell(n, within);
            return true;
        }

        /** More TIME than the smallest KINDS take together makes nothing smaller. */
        private int timeOfSmallest(int n) {
            int time = 0;
            for (int i = 0; i < n; i++) {
                int smallest = i * KINDS;
                for (int at = smallest; at < (i + 1) * KINDS; at++) {
                    if (sizes.at(at) < sizes.at(smallest)) {
                        smallest = at;
                    }
                }
                time += times.at(smallest);
            }
            return time;
        }

        private int leastFrom(int i, int left) {
            int found = TOO_LONG;
            for (int kind = 0; kind < KINDS; kind++) {
                found = Math.min(found, sizeWith(i, kind, left));
            }
            return found;
        }

        private int sizeWith(int i, int kind, int left) {
            int behind = left - times.at(i * KINDS + kind);
            if (i + 1 >= least.length || behind < 0 || behind > ALL_TIME_MOST) {
                return TOO_LONG;
            }
            return sizes.at(i * KINDS + kind) + least[i + 1][behind];
        }

        private void tell(int n, int within) {
            kinds.empty();
            allSize = least[0][within];
            allTime = 0;
            for (int i = 0; i < n; i++) {
                int left = Math.max(0, within - allTime);
                int kind = 0;
                while (kind < KINDS - 1 && sizeWith(i, kind, left) != least[i][left]) {
                    kind++;
                }
                kinds.add(kind);
                allTime += times.at(i * KINDS + kind);
            }
        }
    }
}

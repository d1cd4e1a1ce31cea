import java.util.Arrays;

/**
 * A dukedom of ranks and their moats, told as a text. ../shared/DOC.md has the numbered promises; words in capitals
 * are its terms.
 *
 * <p>All rows are made once, by the constructor, and used again by every call: a run of calls lives in one room.
 */
public final class MoatRanks {
    public static final int NONE = -1;

    private static final int NO_SUCH = -2;
    private static final int NEGATIVE = -3;
    private static final int FAULTY = -4;
    private static final int REFUSED = -5;
    private static final int NOTHING = -6;
    private static final int BEYOND = -7;
    private static final int UNLIKE = -8;
    private static final int NO_GAME = -1000;

    private static final int MOST_BYTES = 900;
    private static final int FED_BYTES = 20;
    private static final int MOST_YEARS = 16;
    private static final int MOST_RANKS = 6;
    private static final int MOST_PLANKS = 5;
    private static final int MOST_RAINS = 5;
    private static final int MOST_FROSTS = 4;
    private static final int MOST_INVITES = 8;
    private static final int MOST_ACTS = 30;
    private static final int MOST_WIDE = 9;
    private static final int BRIM_OF_WIDE = 5;
    private static final int MOST_LENGTH = 9;
    private static final int MOST_DRAINS = 20;
    private static final int MOST_WATER = 99;
    private static final int CELLS = MOST_RANKS * MOST_YEARS;
    private static final int SETS = 1 << MOST_RANKS;

    private static final int LAWS = 4;
    private static final int LAW_STAYS = 0;
    private static final int LAW_NEXT = 1;
    private static final int LAW_AHEAD = 2;

    private static final int SLOTS = 4;
    private static final int WIDTHS = 4;
    private static final int MOST_NUMBERS = 60;
    private static final int SEEN_NUMBERS = 3;
    private static final int IMAGES = 3;

    private static final int LAST_CHANCE_YEAR = 7;
    private static final int MOST_SEED = 2_000_000_000;
    private static final int MOST_DRAWINGS = 20;

    private static final int KEPT_BRINGS = 3;
    private static final int FILLING_COSTS = 4;

    private final Tape tape = new Tape();
    private final Reader reader = new Reader(tape);
    private Realm realm = new Realm();
    private Realm draft = new Realm();
    private final Realm[] images = new Realm[IMAGES];
    private int imagesKept = 0;
    private final Course now = new Course(realm);
    private final Course supposed = new Course(realm);
    private final Laying laying = new Laying();
    private final Guess guess = new Guess();
    private final Row[] rows = new Row[SLOTS];

    public MoatRanks() {
        for (int k = 0; k < IMAGES; k++) {
            images[k] = new Realm();
        }
        for (int slot = 0; slot < SLOTS; slot++) {
            rows[slot] = new Row();
        }
    }

    // ---- the text

    public int feed(int a, int b, int c, int d, int e) {
        if (tape.size + FED_BYTES > MOST_BYTES) {
            return NONE;
        }
        tape.put(a);
        tape.put(b);
        tape.put(c);
        tape.put(d);
        tape.put(e);
        return tape.size;
    }

    public int end(int n) {
        if (n < 0 || n > tape.size) {
            return NONE;
        }
        tape.size = n;
        return n;
    }

    public int dukedom() {
        reader.read(draft);
        if (reader.fault != 0) {
            return FAULTY;
        }
        tape.size = 0;
        Realm before = realm;
        realm = draft;
        draft = before;
        settle();
        return realm.lines;
    }

    public int fault(int what) {
        if (what == 0) {
            return reader.fault;
        }
        return what == 1 ? reader.place : NONE;
    }

    public int rank(int rank, int what) {
        if (!realm.hasRank(rank)) {
            return NO_SUCH;
        }
        switch (what) {
            case 0:
                return realm.wide[rank];
            case 1:
                return realm.told[rank];
            case 2:
                return realm.drains[rank];
            case 3:
                return realm.swims[rank];
            default:
                return NO_SUCH;
        }
    }

    public int plank(int plank, int what) {
        if (!realm.hasPlank(plank)) {
            return NO_SUCH;
        }
        switch (what) {
            case 0:
                return realm.plankLong[plank];
            case 1:
                return realm.plankOn[plank];
            default:
                return NO_SUCH;
        }
    }

    public int invite(int invite, int what) {
        Invites all = realm.invites;
        if (!all.has(invite)) {
            return NO_SUCH;
        }
        switch (what) {
            case 0:
                return all.guest[invite];
            case 1:
                return all.host[invite];
            case 2:
                return all.year[invite];
            default:
                return NO_SUCH;
        }
    }

    public int rain(int year) {
        return realm.hasYear(year) ? realm.rainOf[year] : NO_SUCH;
    }

    public int frosts() {
        return realm.isTold() ? now.frosts : NO_SUCH;
    }

    // ---- water

    public int water(int rank, int year) {
        return realm.hasBoth(rank, year) ? now.water[cell(rank, year)] : NO_SUCH;
    }

    public int spills(int rank, int year) {
        return realm.hasBoth(rank, year) ? now.spilled[cell(rank, year)] : NO_SUCH;
    }

    public int lost(int year) {
        return realm.hasYear(year) ? now.lost[year] : NO_SUCH;
    }

    public int drained(int rank, int year) {
        return realm.hasBoth(rank, year) ? now.drained[cell(rank, year)] : NO_SUCH;
    }

    public int all(int year) {
        if (!realm.hasYear(year)) {
            return NO_SUCH;
        }
        int sum = 0;
        for (int rank = 0; rank < realm.ranks; rank++) {
            sum += now.water[cell(rank, year)];
        }
        return sum;
    }

    public int dry(int year) {
        if (!realm.hasYear(year)) {
            return NO_SUCH;
        }
        int bits = 0;
        for (int rank = 0; rank < realm.ranks; rank++) {
            if (now.water[cell(rank, year)] == 0) {
                bits |= 1 << rank;
            }
        }
        return bits;
    }

    public int deepest(int year) {
        if (!realm.hasYear(year)) {
            return NO_SUCH;
        }
        int found = NONE;
        int deep = NONE;
        for (int rank = 0; rank < realm.ranks; rank++) {
            int water = now.water[cell(rank, year)];
            if (water > deep) {
                deep = water;
                found = rank;
            }
        }
        return found;
    }

    public int most(int rank) {
        if (!realm.hasRank(rank)) {
            return NO_SUCH;
        }
        int greatest = 0;
        for (int year = 0; year < realm.years; year++) {
            greatest = Math.max(greatest, now.water[cell(rank, year)]);
        }
        return greatest;
    }

    public int dries(int rank) {
        if (!realm.hasRank(rank)) {
            return NO_SUCH;
        }
        for (int year = 0; year < realm.years; year++) {
            if (now.water[cell(rank, year)] == 0) {
                return year;
            }
        }
        return NONE;
    }

    public int wet(int rank) {
        if (!realm.hasRank(rank)) {
            return NO_SUCH;
        }
        int sum = 0;
        for (int year = 0; year < realm.years; year++) {
            if (now.water[cell(rank, year)] > 0) {
                sum++;
            }
        }
        return sum;
    }

    public int flood() {
        if (!realm.isTold()) {
            return NO_SUCH;
        }
        int found = NONE;
        int greatest = 0;
        for (int year = 0; year < realm.years; year++) {
            if (now.lost[year] > greatest) {
                greatest = now.lost[year];
                found = year;
            }
        }
        return found;
    }

    public int rains() {
        if (!realm.isTold()) {
            return NO_SUCH;
        }
        int sum = 0;
        for (int year = 0; year < realm.years; year++) {
            sum += realm.rainOf[year];
        }
        return sum;
    }

    // ---- who comes to whom

    public int lone() {
        if (!realm.isTold()) {
            return NO_SUCH;
        }
        int visited = 0;
        for (int year = 0; year < realm.years; year++) {
            for (int rank = 0; rank < realm.ranks; rank++) {
                visited |= now.visitedBy(rank, year);
            }
        }
        return realm.everyRank() & ~visited;
    }

    public int over(int rank, int other, int year) {
        if (!realm.hasRank(other) || !realm.hasBoth(rank, year)) {
            return NO_SUCH;
        }
        return now.crosses(rank, other, year) ? 1 : 0;
    }

    public int comes(int rank, int year) {
        return realm.hasBoth(rank, year) ? now.visitedBy(rank, year) : NO_SUCH;
    }

    public int guests(int rank, int year) {
        if (!realm.hasBoth(rank, year)) {
            return NO_SUCH;
        }
        int bits = 0;
        for (int guest = 0; guest < realm.ranks; guest++) {
            if (now.visits(guest, rank, year)) {
                bits |= 1 << guest;
            }
        }
        return bits;
    }

    public int first(int rank, int other) {
        if (!realm.hasTwo(rank, other)) {
            return NO_SUCH;
        }
        for (int year = 0; year < realm.years; year++) {
            if (now.visits(rank, other, year)) {
                return year;
            }
        }
        return NONE;
    }

    public int often(int rank, int other) {
        if (!realm.hasTwo(rank, other)) {
            return NO_SUCH;
        }
        int sum = 0;
        for (int year = 0; year < realm.years; year++) {
            if (now.visits(rank, other, year)) {
                sum++;
            }
        }
        return sum;
    }

    public int news(int rank, int other, int year) {
        if (!realm.hasRank(other) || !realm.hasBoth(rank, year)) {
            return NO_SUCH;
        }
        int told = 1 << rank;
        for (int visits = 0; visits <= realm.ranks; visits++) {
            if ((told >> other & 1) != 0) {
                return visits;
            }
            told = now.spread(told, year);
        }
        return NONE;
    }

    public int friends(int year) {
        return realm.hasYear(year) ? now.pairs(year) : NO_SUCH;
    }

    public int fair() {
        if (!realm.isTold()) {
            return NO_SUCH;
        }
        int found = 0;
        int greatest = now.pairs(0);
        for (int year = 1; year < realm.years; year++) {
            int pairs = now.pairs(year);
            if (pairs > greatest) {
                greatest = pairs;
                found = year;
            }
        }
        return found;
    }

    public int fords(int rank, int year) {
        if (!realm.hasBoth(rank, year)) {
            return NO_SUCH;
        }
        int bits = 0;
        for (int other = 0; other < realm.ranks; other++) {
            if (now.crosses(rank, other, year)) {
                bits |= 1 << other;
            }
        }
        return bits;
    }

    public int shut(int year) {
        if (!realm.hasYear(year)) {
            return NO_SUCH;
        }
        int bits = 0;
        for (int rank = 0; rank < realm.ranks; rank++) {
            if (!now.crosses(rank, rank, year)) {
                bits |= 1 << rank;
            }
        }
        return bits;
    }

    public int widest(int year) {
        if (!realm.hasYear(year)) {
            return NO_SUCH;
        }
        int greatest = 0;
        for (int rank = 0; rank < realm.ranks; rank++) {
            greatest = Math.max(greatest, now.farthest(rank, year));
        }
        return greatest;
    }

    // ---- invitations

    public int kept(int invite) {
        if (!realm.invites.has(invite)) {
            return NO_SUCH;
        }
        return now.isKept(invite, now.open) ? 1 : 0;
    }

    public int keeps() {
        return realm.isTold() ? now.keptBits(now.open) : NO_SUCH;
    }

    public int hinders(int invite) {
        return realm.invites.has(invite) ? now.hindrance(invite) : NO_SUCH;
    }

    public int hosts(int rank) {
        return realm.hasRank(rank) ? Integer.bitCount(now.keptBits(now.open) & realm.invites.toWhom(rank)) : NO_SUCH;
    }

    public int goes(int rank) {
        return realm.hasRank(rank) ? Integer.bitCount(now.keptBits(now.open) & realm.invites.ofWhom(rank)) : NO_SUCH;
    }

    public int host() {
        if (!realm.isTold()) {
            return NO_SUCH;
        }
        int kept = now.keptBits(now.open);
        int found = NONE;
        int greatest = 0;
        for (int rank = 0; rank < realm.ranks; rank++) {
            int hosted = Integer.bitCount(kept & realm.invites.toWhom(rank));
            if (hosted > greatest) {
                greatest = hosted;
                found = rank;
            }
        }
        return found;
    }

    public int idle() {
        if (!realm.isTold()) {
            return NO_SUCH;
        }
        int bits = 0;
        int kept = now.keptSum(now.open);
        int acts = realm.openedByActs();
        for (int plank = 0; plank < realm.planks; plank++) {
            if (now.keptSum(acts | realm.openedByTold(plank)) == kept) {
                bits |= 1 << plank;
            }
        }
        return bits;
    }

    // ---- planks laid, moats filled in, other drains, swimming, laws

    public int best() {
        if (!realm.isTold()) {
            return NO_SUCH;
        }
        laying.plan(realm, now);
        return laying.mostKept();
    }

    public int lay(int plank) {
        if (!realm.hasPlank(plank)) {
            return NO_SUCH;
        }
        laying.plan(realm, now);
        return laying.place(realm, plank);
    }

    public int ways() {
        if (!realm.isTold()) {
            return NO_SUCH;
        }
        laying.plan(realm, now);
        return laying.rowsOfBest();
    }

    public int fills() {
        return realm.isTold() ? Integer.bitCount(now.allHindrance()) : NO_SUCH;
    }

    public int filled() {
        return realm.isTold() ? now.allHindrance() : NO_SUCH;
    }

    public int path() {
        if (!realm.isTold()) {
            return NO_SUCH;
        }
        int found = NONE;
        int greatest = now.keptSum(now.open);
        for (int rank = 0; rank < realm.ranks; rank++) {
            int kept = now.keptSum(now.open | 1 << rank);
            if (kept > greatest) {
                greatest = kept;
                found = rank;
            }
        }
        return found;
    }

    public int drain(int rank) {
        if (!realm.hasRank(rank)) {
            return NO_SUCH;
        }
        supposed.take(realm);
        int found = 0;
        int greatest = NONE;
        for (int drains = 0; drains <= MOST_DRAINS; drains++) {
            supposed.drains[rank] = drains;
            supposed.runAll();
            int kept = supposed.keptSum(supposed.open);
            if (kept > greatest) {
                greatest = kept;
                found = drains;
            }
        }
        return found;
    }

    public int learns(int rank) {
        if (!realm.hasRank(rank)) {
            return NO_SUCH;
        }
        int deepest = 0;
        for (int invite = 0; invite < realm.invites.size; invite++) {
            if (realm.invites.guest[invite] == rank) {
                deepest = Math.max(deepest, now.deepestOnTheWay(invite));
            }
        }
        return deepest;
    }

    public int by(int law) {
        if (!realm.isTold() || law < 0 || law >= LAWS) {
            return NO_SUCH;
        }
        return keptByLaw(law);
    }

    public int law() {
        if (!realm.isTold()) {
            return NO_SUCH;
        }
        int found = 0;
        int greatest = NONE;
        for (int law = 0; law < LAWS; law++) {
            int kept = keptByLaw(law);
            if (kept > greatest) {
                greatest = kept;
                found = law;
            }
        }
        return found;
    }

    // ---- what was seen

    public int waters(int slot, int rank) {
        int why = guessTold(slot, rank);
        return why == 0 ? guess.size : why;
    }

    public int least(int slot, int rank) {
        int why = guessTold(slot, rank);
        return why == 0 ? guess.lowest : why;
    }

    public int greatest(int slot, int rank) {
        int why = guessTold(slot, rank);
        return why == 0 ? guess.highest : why;
    }

    public int ask(int slot, int rank) {
        int why = guessTold(slot, rank);
        return why == 0 ? guess.yearToAsk(realm.years) : why;
    }

    public int leaves(int slot, int rank) {
        int why = guessTold(slot, rank);
        if (why != 0) {
            return why;
        }
        int year = guess.yearToAsk(realm.years);
        return year == NONE ? guess.size : guess.atWorst(year);
    }

    public int laws(int slot) {
        int why = whyNotSeen(slot, realm.isTold());
        if (why != 0) {
            return why;
        }
        int bits = 0;
        for (int law = 0; law < LAWS; law++) {
            supposed.take(realm);
            supposed.law = law;
            supposed.run(realm.years);
            if (rows[slot].isSeenIn(supposed)) {
                bits |= 1 << law;
            }
        }
        return bits;
    }

    // ---- shares, the game of two

    public int worth(int set) {
        if (!realm.isTold() || (set & ~realm.everyRank()) != 0) {
            return NO_SUCH;
        }
        return now.keptSum(now.open | set);
    }

    public int share(int rank, int what) {
        if (!realm.hasRank(rank) || !isEither(what)) {
            return NO_SUCH;
        }
        // An INVITE comes with the last of the moats that hinder it. They are one or two, and each of two is the
        // last one in half of the orders: counted in halves, the mean needs no orders.
        int halves = 0;
        for (int invite = 0; invite < realm.invites.size; invite++) {
            int hindrance = now.hindrance(invite);
            if ((hindrance >> rank & 1) != 0) {
                halves += Integer.bitCount(hindrance) == 1 ? 2 : 1;
            }
        }
        return (int) inLowestTerms(halves, 2, what);
    }

    public int rests(int rank, int other) {
        if (!realm.hasTwo(rank, other)) {
            return NO_SUCH;
        }
        int bits = 0;
        for (int pair = 0; pair < 4; pair++) {
            int x = pair & 1;
            int y = pair >> 1;
            boolean content = gain(rank, other, x, y) >= gain(rank, other, 1 - x, y);
            boolean otherContent = gain(other, rank, y, x) >= gain(other, rank, 1 - y, x);
            if (content && otherContent) {
                bits |= 1 << pair;
            }
        }
        return bits;
    }

    public int gets(int rank, int other, int x, int y) {
        if (!realm.hasTwo(rank, other) || !isEither(x) || !isEither(y)) {
            return NO_GAME;
        }
        return gain(rank, other, x, y);
    }

    // ---- frosts by chance

    public long chance(int rank, int other, int year, int what) {
        if (!realm.hasTwo(rank, other) || !isChanceYear(year) || !isEither(what)) {
            return NO_SUCH;
        }
        long above = 0;
        supposed.take(realm);
        for (int frosts = 0; frosts < 1 << (year + 1); frosts++) {
            supposed.frosts = frosts;
            supposed.run(year + 1);
            if (supposed.visits(rank, other, year)) {
                above += weight(frosts, year);
            }
        }
        return inLowestTerms(above, allWeights(year), what);
    }

    public long mean(int rank, int year, int what) {
        if (!realm.hasRank(rank) || !isChanceYear(year) || !isEither(what)) {
            return NO_SUCH;
        }
        long above = 0;
        supposed.take(realm);
        for (int frosts = 0; frosts < 1 << (year + 1); frosts++) {
            supposed.frosts = frosts;
            supposed.run(year + 1);
            above += weight(frosts, year) * supposed.water[cell(rank, year)];
        }
        return inLowestTerms(above, allWeights(year), what);
    }

    // ---- acts

    public int adds(int n, int rank) {
        if (n < 1 || n > MOST_LENGTH || !realm.hasRank(rank)) {
            return NO_SUCH;
        }
        if (!realm.acts.addPlank(rank, n)) {
            return REFUSED;
        }
        settle();
        int bits = 0;
        for (int comer = 0; comer < realm.ranks; comer++) {
            if (now.crosses(comer, rank, 0)) {
                bits |= 1 << comer;
            }
        }
        return bits;
    }

    public int dredge(int rank, int year) {
        if (!realm.hasBoth(rank, year)) {
            return NO_SUCH;
        }
        if (!realm.acts.addDredging(rank, year)) {
            return REFUSED;
        }
        settle();
        return now.water[cell(rank, realm.years - 1)];
    }

    public int undo() {
        if (!realm.isTold()) {
            return NO_SUCH;
        }
        if (realm.acts.size == 0) {
            return REFUSED;
        }
        realm.acts.size--;
        settle();
        return realm.acts.size;
    }

    public int anew() {
        if (!realm.isTold()) {
            return NO_SUCH;
        }
        int before = realm.acts.size;
        realm.acts.size = 0;
        settle();
        return before;
    }

    // ---- years drawn

    public int drawn(int seed, int what) {
        if (!realm.isTold() || !isSeed(seed) || !isEither(what)) {
            return NO_SUCH;
        }
        int frosts = drawFrosts(seed);
        return what == 0 ? frosts : keptInFrosts(frosts);
    }

    public int luck(int seed, int n, int invite) {
        if (!isSeed(seed) || n < 1 || n > MOST_DRAWINGS || !realm.invites.has(invite)) {
            return NO_SUCH;
        }
        int sum = 0;
        for (int i = 0; i < n; i++) {
            sum += keptInFrosts(drawFrosts(seed + i)) >> invite & 1;
        }
        return sum;
    }

    public int digs(int rank, int n) {
        if (n < 1 || n > MOST_WIDE || !realm.hasRank(rank)) {
            return NO_SUCH;
        }
        if (realm.acts.size > 0) {
            return REFUSED;
        }
        int before = realm.wide[rank];
        realm.wide[rank] = n;
        settle();
        return before;
    }

    public int count(int what) {
        switch (what) {
            case 0:
                return realm.years;
            case 1:
                return realm.law;
            case 2:
                return realm.odds;
            case 3:
                return realm.ranks;
            case 4:
                return realm.planks;
            case 5:
                return realm.rains;
            case 6:
                return realm.frosts;
            case 7:
                return realm.invites.size;
            case 8:
                return realm.acts.size;
            case 9:
                return realm.lines;
            case 10:
                return tape.size;
            case 11:
                return rowsThere();
            default:
                return NONE;
        }
    }

    // ---- images, slots

    public int image(int k) {
        if (k < 0 || k >= IMAGES) {
            return NO_SUCH;
        }
        images[k].copy(realm);
        imagesKept |= 1 << k;
        return 0;
    }

    public int back(int k) {
        if (k < 0 || k >= IMAGES) {
            return NO_SUCH;
        }
        if ((imagesKept >> k & 1) == 0) {
            return NOTHING;
        }
        realm.copy(images[k]);
        settle();
        return 0;
    }

    public int row(int slot, int width, int n) {
        if (!isSlot(slot) || width < 0 || width >= WIDTHS || n > MOST_NUMBERS) {
            return NO_SUCH;
        }
        if (n < 0) {
            return NEGATIVE;
        }
        rows[slot].make(width, n);
        return 0;
    }

    public int write(int slot, int i, long v) {
        if (!isSlot(slot)) {
            return NO_SUCH;
        }
        Row row = rows[slot];
        if (!row.isThere()) {
            return NOTHING;
        }
        if (i < 0 || i >= row.size) {
            return BEYOND;
        }
        row.numbers[i] = cutToWidth(v, row.width);
        return 0;
    }

    public int paste(int slot, int i, int to, int k, int n) {
        if (!isSlot(slot) || !isSlot(to)) {
            return NO_SUCH;
        }
        Row source = rows[slot];
        Row target = rows[to];
        if (!source.isThere() || !target.isThere()) {
            return NOTHING;
        }
        if (source.width != target.width) {
            return UNLIKE;
        }
        if (!source.hasRange(i, n) || !target.hasRange(k, n)) {
            return BEYOND;
        }
        System.arraycopy(source.numbers, i, target.numbers, k, n);
        return 0;
    }

    // ---- what the promises share

    /** What the DUKEDOM and its acts bring is worked out when they change, so that asking is cheap. */
    private void settle() {
        now.take(realm);
        now.runAll();
    }

    private static int cell(int rank, int year) {
        return year * MOST_RANKS + rank;
    }

    private static boolean isEither(int what) {
        return what == 0 || what == 1;
    }

    private static boolean isSlot(int slot) {
        return slot >= 0 && slot < SLOTS;
    }

    private static boolean isSeed(int seed) {
        return seed >= 0 && seed <= MOST_SEED;
    }

    private boolean isChanceYear(int year) {
        return realm.hasYear(year) && year <= LAST_CHANCE_YEAR;
    }

    private int rowsThere() {
        int sum = 0;
        for (int slot = 0; slot < SLOTS; slot++) {
            if (rows[slot].isThere()) {
                sum++;
            }
        }
        return sum;
    }

    private static long cutToWidth(long v, int width) {
        switch (width) {
            case 0:
                return (byte) v;
            case 1:
                return (short) v;
            case 2:
                return (int) v;
            default:
                return v;
        }
    }

    private int keptByLaw(int law) {
        supposed.take(realm);
        supposed.law = law;
        supposed.runAll();
        return supposed.keptSum(supposed.open);
    }

    private int keptInFrosts(int frosts) {
        supposed.take(realm);
        supposed.frosts = frosts;
        supposed.runAll();
        return supposed.keptBits(supposed.open);
    }

    private int drawFrosts(int seed) {
        long x = seed;
        int bits = 0;
        for (int year = 0; year < realm.years; year++) {
            x = (1_103_515_245L * x + 12_345L) % 2_147_483_648L;
            if (x / 65_536L % 10L < realm.odds) {
                bits |= 1 << year;
            }
        }
        return bits;
    }

    private int gain(int rank, int other, int x, int y) {
        int kept = now.keptBits(now.open | x << rank | y << other);
        int own = kept & (realm.invites.toWhom(rank) | realm.invites.ofWhom(rank));
        return KEPT_BRINGS * Integer.bitCount(own) - FILLING_COSTS * x;
    }

    /** How many of all the chances of YEARS 0 to year, ten a YEAR, have just these FROSTS. */
    private long weight(int frosts, int year) {
        long weight = 1;
        for (int i = 0; i <= year; i++) {
            weight *= (frosts >> i & 1) != 0 ? realm.odds : 10 - realm.odds;
        }
        return weight;
    }

    private static long allWeights(int year) {
        long weights = 1;
        for (int i = 0; i <= year; i++) {
            weights *= 10;
        }
        return weights;
    }

    private static long inLowestTerms(long above, long below, int what) {
        long a = above;
        long b = below;
        for (int i = 0; i < 200 && a != 0; i++) {
            long rest = b % a;
            b = a;
            a = rest;
        }
        if (b == 0) {
            return NO_SUCH;
        }
        return (what == 0 ? above : below) / b;
    }

    /** 0 if a SLOT's row tells what was SEEN, else what is to be answered. */
    private int whyNotSeen(int slot, boolean such) {
        if (!such || !isSlot(slot)) {
            return NO_SUCH;
        }
        if (!rows[slot].isThere()) {
            return NOTHING;
        }
        return rows[slot].tellsOf(realm) ? 0 : NO_SUCH;
    }

    private int guessTold(int slot, int rank) {
        int why = whyNotSeen(slot, realm.hasRank(rank));
        if (why != 0) {
            return why;
        }
        guess.clear();
        supposed.take(realm);
        for (int told = 0; told <= MOST_WATER; told++) {
            supposed.told[rank] = told;
            supposed.run(realm.years);
            if (rows[slot].isSeenIn(supposed)) {
                guess.add(told, supposed, rank);
            }
        }
        return 0;
    }

    /** The bytes that are fed. */
    private static final class Tape {
        private final byte[] bytes = new byte[MOST_BYTES];
        private int size = 0;

        private void put(int number) {
            for (int shift = 24; shift >= 0 && size < MOST_BYTES; shift -= 8) {
                bytes[size] = (byte) (number >> shift);
                size++;
            }
        }

        private int at(int place) {
            return place >= 0 && place < size ? bytes[place] & 255 : NONE;
        }
    }

    /** Reads a TAPE, TOKEN by TOKEN, until its end or its first FAULT. */
    private static final class Reader {
        private static final int END = 0;
        private static final int WORD = 1;
        private static final int NUMBER = 2;
        private static final int SIGN = 3;
        private static final int OTHER = 4;

        private static final int MISPLACED = 1;
        private static final int OUT_OF_BOUNDS = 2;
        private static final int TOO_MANY = 3;
        private static final int BEYOND_ALL_BOUNDS = 1000;

        private final Tape tape;
        private int fault = 0;
        private int place = NONE;
        private int kind = END;
        private int start = 0;
        private int behind = 0;
        private int value = 0;

        private Reader(Tape tape) {
            this.tape = tape;
        }

        private void read(Realm into) {
            fault = 0;
            place = NONE;
            behind = 0;
            into.clear();
            step();
            for (int i = 0; i < MOST_BYTES && fault == 0 && kind != END; i++) {
                line(into);
            }
        }

        private void line(Realm into) {
            if (into.lines == 0) {
                dukedomLine(into);
            } else if (isWord("rank")) {
                rankLine(into);
            } else if (isWord("plank")) {
                plankLine(into);
            } else if (isWord("rain")) {
                rainLine(into);
            } else if (isWord("frost")) {
                frostLine(into);
            } else if (isWord("invite")) {
                inviteLine(into, into.invites);
            } else {
                fail(MISPLACED);
            }
            sign();
            into.lines++;
        }

        private void dukedomLine(Realm into) {
            word("dukedom");
            word("years");
            into.years = number(1, MOST_YEARS);
            word("law");
            into.law = number(0, LAWS - 1);
            word("odds");
            into.odds = number(0, 10);
        }

        private void rankLine(Realm into) {
            if (into.ranks >= MOST_RANKS) {
                fail(TOO_MANY);
                return;
            }
            word("rank");
            word("wide");
            into.wide[into.ranks] = number(1, MOST_WIDE);
            word("water");
            into.told[into.ranks] = number(0, MOST_WATER);
            word("drains");
            into.drains[into.ranks] = number(0, MOST_DRAINS);
            word("swims");
            into.swims[into.ranks] = number(0, 30);
            into.ranks++;
        }

        private void plankLine(Realm into) {
            if (into.planks >= MOST_PLANKS) {
                fail(TOO_MANY);
                return;
            }
            word("plank");
            into.plankLong[into.planks] = number(1, MOST_LENGTH);
            word("on");
            into.plankOn[into.planks] = number(0, into.ranks - 1);
            into.planks++;
        }

        private void rainLine(Realm into) {
            if (into.rains >= MOST_RAINS) {
                fail(TOO_MANY);
                return;
            }
            word("rain");
            int n = number(1, 40);
            word("at");
            into.rainOf[number(0, MOST_YEARS - 1)] += n;
            into.rains++;
        }

        private void frostLine(Realm into) {
            if (into.frosts >= MOST_FROSTS) {
                fail(TOO_MANY);
                return;
            }
            word("frost");
            word("at");
            into.frostBits |= 1 << number(0, MOST_YEARS - 1);
            into.frosts++;
        }

        private void inviteLine(Realm into, Invites invites) {
            if (invites.size >= MOST_INVITES) {
                fail(TOO_MANY);
                return;
            }
            word("invite");
            int guest = number(0, into.ranks - 1);
            if (fault == 0 && kind == NUMBER && value == guest) {
                fail(OUT_OF_BOUNDS);
            }
            int host = number(0, into.ranks - 1);
            word("at");
            invites.guest[invites.size] = guest;
            invites.host[invites.size] = host;
            invites.year[invites.size] = number(0, MOST_YEARS - 1);
            invites.size++;
        }

        private void fail(int why) {
            if (fault == 0) {
                fault = why;
                place = start;
            }
        }

        private void word(String text) {
            if (!isWord(text)) {
                fail(MISPLACED);
            }
            step();
        }

        private void sign() {
            if (kind != SIGN) {
                fail(MISPLACED);
            }
            step();
        }

        /** The number that stands here; behind a FAULT the least one, which bounds keep. */
        private int number(int lowest, int highest) {
            int found = value;
            if (kind != NUMBER) {
                fail(MISPLACED);
            } else if (found < lowest || found > highest) {
                fail(OUT_OF_BOUNDS);
            }
            step();
            return fault == 0 ? found : lowest;
        }

        private boolean isWord(String text) {
            if (kind != WORD || behind - start != text.length()) {
                return false;
            }
            for (int i = 0; i < text.length(); i++) {
                if (tape.at(start + i) != text.charAt(i)) {
                    return false;
                }
            }
            return true;
        }

        /** Goes to the next TOKEN; behind a FAULT it stays where that is. */
        private void step() {
            if (fault != 0) {
                return;
            }
            start = behind;
            while (start < tape.size && (tape.at(start) == ' ' || tape.at(start) == '\n')) {
                start++;
            }
            kind = kindOf(tape.at(start));
            behind = Math.min(start + 1, tape.size);
            while (behind < tape.size && isLong(kind) && kindOf(tape.at(behind)) == kind) {
                behind++;
            }
            value = 0;
            for (int i = start; kind == NUMBER && i < behind; i++) {
                value = Math.min(value * 10 + tape.at(i) - '0', BEYOND_ALL_BOUNDS);
            }
        }

        private static boolean isLong(int kind) {
            return kind == WORD || kind == NUMBER;
        }

        private static int kindOf(int b) {
            if (b == NONE) {
                return END;
            }
            if (b >= 'a' && b <= 'z') {
                return WORD;
            }
            if (b >= '0' && b <= '9') {
                return NUMBER;
            }
            return b == ';' ? SIGN : OTHER;
        }
    }

    /** A DUKEDOM as it is told, and its acts; without LINES there is none. */
    private static final class Realm {
        private int lines = 0;
        private int years = 0;
        private int law = 0;
        private int odds = 0;
        private int ranks = 0;
        private final int[] wide = new int[MOST_RANKS];
        private final int[] told = new int[MOST_RANKS];
        private final int[] drains = new int[MOST_RANKS];
        private final int[] swims = new int[MOST_RANKS];
        private int planks = 0;
        private final int[] plankLong = new int[MOST_PLANKS];
        private final int[] plankOn = new int[MOST_PLANKS];
        private int rains = 0;
        private final int[] rainOf = new int[MOST_YEARS];
        private int frosts = 0;
        private int frostBits = 0;
        private final Invites invites = new Invites();
        private final Acts acts = new Acts();

        private void clear() {
            lines = 0;
            years = 0;
            law = 0;
            odds = 0;
            ranks = 0;
            planks = 0;
            rains = 0;
            frosts = 0;
            frostBits = 0;
            Arrays.fill(rainOf, 0);
            invites.size = 0;
            acts.size = 0;
        }

        private void copy(Realm from) {
            lines = from.lines;
            years = from.years;
            law = from.law;
            odds = from.odds;
            ranks = from.ranks;
            planks = from.planks;
            rains = from.rains;
            frosts = from.frosts;
            frostBits = from.frostBits;
            System.arraycopy(from.wide, 0, wide, 0, MOST_RANKS);
            System.arraycopy(from.told, 0, told, 0, MOST_RANKS);
            System.arraycopy(from.drains, 0, drains, 0, MOST_RANKS);
            System.arraycopy(from.swims, 0, swims, 0, MOST_RANKS);
            System.arraycopy(from.plankLong, 0, plankLong, 0, MOST_PLANKS);
            System.arraycopy(from.plankOn, 0, plankOn, 0, MOST_PLANKS);
            System.arraycopy(from.rainOf, 0, rainOf, 0, MOST_YEARS);
            invites.copy(from.invites);
            acts.copy(from.acts);
        }

        private boolean isTold() {
            return lines > 0;
        }

        private boolean hasRank(int rank) {
            return rank >= 0 && rank < ranks;
        }

        private boolean hasYear(int year) {
            return year >= 0 && year < years;
        }

        private boolean hasBoth(int rank, int year) {
            return hasRank(rank) && hasYear(year);
        }

        private boolean hasTwo(int rank, int other) {
            return hasRank(rank) && hasRank(other) && rank != other;
        }

        private boolean hasPlank(int plank) {
            return plank >= 0 && plank < planks;
        }

        private int everyRank() {
            return (1 << ranks) - 1;
        }

        /** A moat that a long enough PLANK lies on is as one filled in: the bit of such a one, or 0. */
        private int opened(int rank, int plankLength) {
            return hasRank(rank) && plankLength >= wide[rank] ? 1 << rank : 0;
        }

        private int openedByTold(int without) {
            int bits = 0;
            for (int plank = 0; plank < planks; plank++) {
                if (plank != without) {
                    bits |= opened(plankOn[plank], plankLong[plank]);
                }
            }
            return bits;
        }

        private int openedByActs() {
            int bits = 0;
            for (int act = 0; act < acts.size; act++) {
                if (acts.plankLong[act] != 0) {
                    bits |= opened(acts.rank[act], acts.plankLong[act]);
                }
            }
            return bits;
        }
    }

    private static final class Invites {
        private int size = 0;
        private final int[] guest = new int[MOST_INVITES];
        private final int[] host = new int[MOST_INVITES];
        private final int[] year = new int[MOST_INVITES];

        private boolean has(int invite) {
            return invite >= 0 && invite < size;
        }

        private int toWhom(int rank) {
            int bits = 0;
            for (int invite = 0; invite < size; invite++) {
                if (host[invite] == rank) {
                    bits |= 1 << invite;
                }
            }
            return bits;
        }

        private int ofWhom(int rank) {
            int bits = 0;
            for (int invite = 0; invite < size; invite++) {
                if (guest[invite] == rank) {
                    bits |= 1 << invite;
                }
            }
            return bits;
        }

        private void copy(Invites from) {
            size = from.size;
            System.arraycopy(from.guest, 0, guest, 0, MOST_INVITES);
            System.arraycopy(from.host, 0, host, 0, MOST_INVITES);
            System.arraycopy(from.year, 0, year, 0, MOST_INVITES);
        }
    }

    /** Acts as they were given: a PLANK (with a length) on a moat, or a moat dredged (length 0) in a YEAR. */
    private static final class Acts {
        private int size = 0;
        private final int[] rank = new int[MOST_ACTS];
        private final int[] plankLong = new int[MOST_ACTS];
        private final int[] year = new int[MOST_ACTS];

        private boolean addPlank(int onRank, int length) {
            return add(onRank, length, 0);
        }

        private boolean addDredging(int ofRank, int inYear) {
            return add(ofRank, 0, inYear);
        }

        private boolean add(int itsRank, int length, int itsYear) {
            if (size >= MOST_ACTS) {
                return false;
            }
            rank[size] = itsRank;
            plankLong[size] = length;
            year[size] = itsYear;
            size++;
            return true;
        }

        private void copy(Acts from) {
            size = from.size;
            System.arraycopy(from.rank, 0, rank, 0, MOST_ACTS);
            System.arraycopy(from.plankLong, 0, plankLong, 0, MOST_ACTS);
            System.arraycopy(from.year, 0, year, 0, MOST_ACTS);
        }
    }

    /**
     * How the YEARS go in a DUKEDOM: as told, or with another LAW, other FROSTS, water or drains put in their place
     * between take and run. INVITES can be asked for behind runAll alone.
     */
    private static final class Course {
        private Realm realm;
        private int law = 0;
        private int frosts = 0;
        private int open = 0;
        private final int[] told = new int[MOST_RANKS];
        private final int[] drains = new int[MOST_RANKS];
        private final int[] dredged = new int[MOST_YEARS];
        private final int[] water = new int[CELLS];
        private final int[] spilled = new int[CELLS];
        private final int[] drained = new int[CELLS];
        private final int[] lost = new int[MOST_YEARS];
        private final int[] deepWater = new int[MOST_INVITES];

        private Course(Realm realm) {
            this.realm = realm;
        }

        private void take(Realm from) {
            realm = from;
            law = from.law;
            frosts = from.frostBits & ((1 << from.years) - 1);
            open = from.openedByTold(NONE) | from.openedByActs();
            System.arraycopy(from.told, 0, told, 0, MOST_RANKS);
            System.arraycopy(from.drains, 0, drains, 0, MOST_RANKS);
            Arrays.fill(dredged, 0);
            for (int act = 0; act < from.acts.size; act++) {
                if (from.acts.plankLong[act] == 0) {
                    dredged[from.acts.year[act]] |= 1 << from.acts.rank[act];
                }
            }
        }

        private void run(int years) {
            for (int year = 0; year < years && year < MOST_YEARS; year++) {
                rainAndDrain(year);
                runOver(year);
                if (dredged[year] != 0) {
                    emptyDredged(year);
                }
            }
        }

        private void runAll() {
            run(realm.years);
            for (int invite = 0; invite < realm.invites.size; invite++) {
                deepWater[invite] = deepWaterFor(invite);
            }
        }

        private void rainAndDrain(int year) {
            boolean frost = isFrost(year);
            int rain = realm.rainOf[year];
            for (int rank = 0; rank < realm.ranks; rank++) {
                int at = cell(rank, year);
                int there = year == 0 ? told[rank] : water[at - MOST_RANKS];
                int off = 0;
                if (!frost) {
                    there += rain;
                    off = Math.min(there, drains[rank]);
                }
                drained[at] = off;
                water[at] = there - off;
            }
        }

        /** One moat behind the other, in the order in which what runs over goes on, if it does. */
        private void runOver(int year) {
            int ranks = realm.ranks;
            int step = law == LAW_AHEAD ? -1 : 1;
            boolean goesOn = law == LAW_NEXT || law == LAW_AHEAD;
            int rank = law == LAW_AHEAD ? ranks - 1 : 0;
            lost[year] = 0;
            for (int i = 0; i < ranks; i++) {
                int at = cell(rank, year);
                int brim = law == LAW_STAYS ? MOST_WATER : BRIM_OF_WIDE * realm.wide[rank];
                int above = Math.max(0, water[at] - brim);
                spilled[at] = above;
                water[at] -= above;
                if (goesOn && i < ranks - 1) {
                    water[at + step] += above;
                } else {
                    lost[year] += above;
                }
                rank += step;
            }
        }

        private void emptyDredged(int year) {
            for (int rank = 0; rank < realm.ranks; rank++) {
                if ((dredged[year] >> rank & 1) != 0) {
                    water[cell(rank, year)] = 0;
                }
            }
        }

        private boolean isFrost(int year) {
            return (frosts >> year & 1) != 0;
        }

        private boolean swimsOver(int rank, int other, int year) {
            return water[cell(other, year)] <= realm.swims[rank];
        }

        private boolean crosses(int rank, int other, int year) {
            return isFrost(year) || (open >> other & 1) != 0 || swimsOver(rank, other, year);
        }

        private boolean visits(int rank, int other, int year) {
            return rank != other && crosses(rank, rank, year) && crosses(rank, other, year);
        }

        private int visitedBy(int rank, int year) {
            int bits = 0;
            for (int other = 0; other < realm.ranks; other++) {
                if (visits(rank, other, year)) {
                    bits |= 1 << other;
                }
            }
            return bits;
        }

        /** Who has NEWS one visit later. */
        private int spread(int knowing, int year) {
            int bits = knowing;
            for (int rank = 0; rank < realm.ranks; rank++) {
                if ((knowing >> rank & 1) != 0) {
                    bits |= visitedBy(rank, year);
                }
            }
            return bits;
        }

        private int farthest(int rank, int year) {
            int knowing = 1 << rank;
            int visits = 0;
            for (int i = 0; i < realm.ranks; i++) {
                int more = spread(knowing, year);
                if (more != knowing) {
                    visits++;
                }
                knowing = more;
            }
            return visits;
        }

        private int pairs(int year) {
            int sum = 0;
            for (int rank = 0; rank < realm.ranks; rank++) {
                for (int other = rank + 1; other < realm.ranks; other++) {
                    if (visits(rank, other, year) && visits(other, rank, year)) {
                        sum++;
                    }
                }
            }
            return sum;
        }

        /** The moats that an INVITE's guest can't swim over in its YEAR, PLANKS aside; NONE without such a YEAR. */
        private int deepWaterFor(int invite) {
            int year = realm.invites.year[invite];
            if (!realm.hasYear(year)) {
                return NONE;
            }
            if (isFrost(year)) {
                return 0;
            }
            int guest = realm.invites.guest[invite];
            int host = realm.invites.host[invite];
            int bits = swimsOver(guest, guest, year) ? 0 : 1 << guest;
            return swimsOver(guest, host, year) ? bits : bits | 1 << host;
        }

        private boolean isKept(int invite, int opened) {
            return deepWater[invite] != NONE && (deepWater[invite] & ~opened) == 0;
        }

        private int keptBits(int opened) {
            int bits = 0;
            for (int invite = 0; invite < realm.invites.size; invite++) {
                if (isKept(invite, opened)) {
                    bits |= 1 << invite;
                }
            }
            return bits;
        }

        private int keptSum(int opened) {
            return Integer.bitCount(keptBits(opened));
        }

        private int hindrance(int invite) {
            return deepWater[invite] == NONE ? 0 : deepWater[invite] & ~open;
        }

        /** Each INVITE needs all the moats that hinder it, so all INVITES need just these. */
        private int allHindrance() {
            int bits = 0;
            for (int invite = 0; invite < realm.invites.size; invite++) {
                bits |= hindrance(invite);
            }
            return bits;
        }

        /** The deepest WATER that an INVITE's guest has to swim in its YEAR, 0 without any. */
        private int deepestOnTheWay(int invite) {
            int year = realm.invites.year[invite];
            if (!realm.hasYear(year) || isFrost(year)) {
                return 0;
            }
            return Math.max(toSwim(realm.invites.guest[invite], year), toSwim(realm.invites.host[invite], year));
        }

        private int toSwim(int rank, int year) {
            return (open >> rank & 1) != 0 ? 0 : water[cell(rank, year)];
        }
    }

    /**
     * LAID. Of where PLANKS lie only the set of moats that they open matters: from the last PLANK back, for each set
     * that those ahead may have opened, the most INVITES that can still be kept, and by how many rows.
     */
    private static final class Laying {
        private final int[] most = new int[(MOST_PLANKS + 1) * SETS];
        private final int[] rows = new int[(MOST_PLANKS + 1) * SETS];
        private int ahead = 0;

        private void plan(Realm realm, Course course) {
            ahead = realm.openedByActs();
            int sets = 1 << realm.ranks;
            for (int set = 0; set < sets; set++) {
                most[realm.planks * SETS + set] = course.keptSum(set);
                rows[realm.planks * SETS + set] = 1;
            }
            for (int plank = realm.planks - 1; plank >= 0; plank--) {
                for (int set = 0; set < sets; set++) {
                    choose(realm, plank, set);
                }
            }
        }

        private void choose(Realm realm, int plank, int set) {
            int greatest = NONE;
            int sum = 0;
            for (int rank = NONE; rank < realm.ranks; rank++) {
                int then = behind(realm, plank, set, rank);
                if (most[then] > greatest) {
                    greatest = most[then];
                    sum = 0;
                }
                if (most[then] == greatest) {
                    sum += rows[then];
                }
            }
            most[plank * SETS + set] = greatest;
            rows[plank * SETS + set] = sum;
        }

        /** Where in the tables one goes on behind a PLANK put on a RANK's moat, or (NONE) on none. */
        private int behind(Realm realm, int plank, int set, int rank) {
            return (plank + 1) * SETS + (set | realm.opened(rank, realm.plankLong[plank]));
        }

        private int mostKept() {
            return most[ahead];
        }

        private int rowsOfBest() {
            return rows[ahead];
        }

        private int place(Realm realm, int plank) {
            int set = ahead;
            int found = NONE;
            for (int p = 0; p <= plank && p < realm.planks; p++) {
                found = firstOfBest(realm, p, set);
                set |= realm.opened(found, realm.plankLong[p]);
            }
            return found;
        }

        private int firstOfBest(Realm realm, int plank, int set) {
            for (int rank = NONE; rank < realm.ranks; rank++) {
                if (most[behind(realm, plank, set, rank)] == most[plank * SETS + set]) {
                    return rank;
                }
            }
            return NONE;
        }
    }

    /** What a RANK's water may have been told as, and how often each of these gives which WATER in which YEAR. */
    private static final class Guess {
        private int size = 0;
        private int lowest = NONE;
        private int highest = NONE;
        private final int[] tally = new int[MOST_YEARS * (MOST_WATER + 1)];

        private void clear() {
            size = 0;
            lowest = NONE;
            highest = NONE;
            Arrays.fill(tally, 0);
        }

        private void add(int told, Course course, int rank) {
            if (size == 0) {
                lowest = told;
            }
            highest = told;
            size++;
            for (int year = 0; year < course.realm.years; year++) {
                int water = course.water[cell(rank, year)];
                if (water >= 0 && water <= MOST_WATER) {
                    tally[year * (MOST_WATER + 1) + water]++;
                }
            }
        }

        private int atWorst(int year) {
            int greatest = 0;
            for (int water = 0; water <= MOST_WATER; water++) {
                greatest = Math.max(greatest, tally[year * (MOST_WATER + 1) + water]);
            }
            return greatest;
        }

        private int yearToAsk(int years) {
            int found = NONE;
            int fewest = size;
            for (int year = 0; year < years; year++) {
                int left = atWorst(year);
                if (left < fewest) {
                    fewest = left;
                    found = year;
                }
            }
            return found;
        }
    }

    /** What a SLOT has: a row of numbers of one WIDTH, or nothing. */
    private static final class Row {
        private int width = NONE;
        private int size = 0;
        private final long[] numbers = new long[MOST_NUMBERS];

        private void make(int itsWidth, int n) {
            width = itsWidth;
            size = n;
            Arrays.fill(numbers, 0);
        }

        private boolean isThere() {
            return width != NONE;
        }

        private boolean hasRange(int from, int n) {
            return from >= 0 && n >= 0 && (long) from + n <= size;
        }

        private boolean tellsOf(Realm realm) {
            if (size % SEEN_NUMBERS != 0) {
                return false;
            }
            for (int i = 0; i + 2 < size; i += SEEN_NUMBERS) {
                boolean such = isBelow(numbers[i], realm.ranks) && isBelow(numbers[i + 1], realm.years);
                if (!such || !isBelow(numbers[i + 2], MOST_WATER + 1)) {
                    return false;
                }
            }
            return true;
        }

        private static boolean isBelow(long number, int bound) {
            return number >= 0 && number < bound;
        }

        /** To be asked behind tellsOf, which looks at the RANKS and YEARS. */
        private boolean isSeenIn(Course course) {
            for (int i = 0; i + 2 < size; i += SEEN_NUMBERS) {
                int at = cell((int) numbers[i], (int) numbers[i + 1]);
                if (course.water[at] != numbers[i + 2]) {
                    return false;
                }
            }
            return true;
        }
    }
}

import java.util.ArrayList;
import java.util.List;
import java.util.regex.Matcher;
import java.util.regex.Pattern;

/**
 * The document once more, written to be compared with: it tries every row, order, set and number by brute force where
 * the class reckons, and keeps nothing worked out between calls.
 */
public final class Oracle {
    private static final int NONE = -1;

    private static final class Duke implements Cloneable {
        int lines, years, law, odds;
        List<int[]> ranks = new ArrayList<>(); // wide, water, drains, swims
        List<int[]> planks = new ArrayList<>(); // long, on
        List<int[]> rains = new ArrayList<>(); // how much, at
        List<Integer> frosts = new ArrayList<>();
        List<int[]> invites = new ArrayList<>(); // guest, host, at
        List<int[]> acts = new ArrayList<>(); // 0 plank, n, rank | 1 dredged, rank, year
        int filledIn; // for suppositions alone

        Duke copy() {
            Duke d = new Duke();
            d.lines = lines;
            d.years = years;
            d.law = law;
            d.odds = odds;
            for (int[] r : ranks) {
                d.ranks.add(r.clone());
            }
            for (int[] p : planks) {
                d.planks.add(p.clone());
            }
            d.rains.addAll(rains);
            d.frosts.addAll(frosts);
            d.invites.addAll(invites);
            d.acts.addAll(acts);
            d.filledIn = filledIn;
            return d;
        }

        boolean frost(int year) {
            return frosts.contains(year);
        }

        int rain(int year) {
            int sum = 0;
            for (int[] r : rains) {
                sum += r[1] == year ? r[0] : 0;
            }
            return sum;
        }
    }

    /** What a course of years gives: by rank and year, and what is lost by year. */
    private static final class Years {
        int[][] water, spills, drained;
        int[] lost;
    }

    private static final class Fault extends Exception {
        private static final long serialVersionUID = 1L;
        final int kind, place;

        Fault(int kind, int place) {
            this.kind = kind;
            this.place = place;
        }
    }

    private String tape = "";
    private Duke duke = new Duke();
    private int fault = 0, place = NONE;
    private final Duke[] images = new Duke[3];
    private final long[][] slots = new long[4][];
    private final int[] widths = new int[4];

    // ---- the text

    public int feed(int a, int b, int c, int d, int e) {
        if (tape.length() + 20 > 900) {
            return NONE;
        }
        StringBuilder more = new StringBuilder(tape);
        for (int n : new int[] {a, b, c, d, e}) {
            more.append((char) (n >>> 24)).append((char) (n >>> 16 & 255)).append((char) (n >>> 8 & 255)).append((char) (n & 255));
        }
        tape = more.toString();
        return tape.length();
    }

    public int end(int n) {
        if (n < 0 || n > tape.length()) {
            return NONE;
        }
        tape = tape.substring(0, n);
        return n;
    }

    private List<String> tokens;
    private List<Integer> places;
    private int at;

    public int dukedom() {
        Matcher m = Pattern.compile("[a-z]+|[0-9]+|[^ \n]", Pattern.DOTALL).matcher(tape);
        tokens = new ArrayList<>();
        places = new ArrayList<>();
        at = 0;
        while (m.find()) {
            tokens.add(m.group());
            places.add(m.start());
        }
        tokens.add("");
        places.add(tape.length());
        try {
            Duke d = new Duke();
            while (!tokens.get(at).isEmpty()) {
                readLine(d);
            }
            duke = d;
            tape = "";
            fault = 0;
            place = NONE;
            return d.lines;
        } catch (Fault f) {
            fault = f.kind;
            place = f.place;
            return -4;
        }
    }

    private void readLine(Duke d) throws Fault {
        String word = tokens.get(at);
        if (word.equals("dukedom") != (d.lines == 0)) {
            throw new Fault(1, places.get(at));
        }
        switch (word) {
            case "dukedom":
                at++;
                d.years = named("years", 1, 16);
                d.law = named("law", 0, 3);
                d.odds = named("odds", 0, 10);
                break;
            case "rank":
                room(d.ranks.size(), 6);
                d.ranks.add(new int[] {named("wide", 1, 9), named("water", 0, 99), named("drains", 0, 20), named("swims", 0, 30)});
                break;
            case "plank":
                room(d.planks.size(), 5);
                d.planks.add(new int[] {number(1, 9), named("on", 0, d.ranks.size() - 1)});
                break;
            case "rain":
                room(d.rains.size(), 5);
                d.rains.add(new int[] {number(1, 40), named("at", 0, 15)});
                break;
            case "frost":
                room(d.frosts.size(), 4);
                d.frosts.add(named("at", 0, 15));
                break;
            case "invite":
                room(d.invites.size(), 8);
                int guest = number(0, d.ranks.size() - 1);
                int where = places.get(at);
                int host = number(0, d.ranks.size() - 1);
                if (guest == host) {
                    throw new Fault(2, where);
                }
                d.invites.add(new int[] {guest, host, named("at", 0, 15)});
                break;
            default:
                throw new Fault(1, places.get(at));
        }
        expect(";");
        d.lines++;
    }

    private void room(int size, int most) throws Fault {
        if (size == most) {
            throw new Fault(3, places.get(at));
        }
        at++;
    }

    private void expect(String token) throws Fault {
        if (!tokens.get(at).equals(token)) {
            throw new Fault(1, places.get(at));
        }
        at++;
    }

    private int named(String word, int low, int high) throws Fault {
        expect(word);
        return number(low, high);
    }

    private int number(int low, int high) throws Fault {
        String t = tokens.get(at);
        if (!t.matches("[0-9]+")) {
            throw new Fault(1, places.get(at));
        }
        java.math.BigInteger v = new java.math.BigInteger(t);
        if (v.compareTo(java.math.BigInteger.valueOf(low)) < 0 || v.compareTo(java.math.BigInteger.valueOf(high)) > 0) {
            throw new Fault(2, places.get(at));
        }
        at++;
        return v.intValue();
    }

    public int fault(int what) {
        return what == 0 ? fault : what == 1 ? place : NONE;
    }

    private boolean none() {
        return duke.lines == 0;
    }

    private boolean isRank(int r) {
        return r >= 0 && r < duke.ranks.size();
    }

    private boolean isYear(int y) {
        return y >= 0 && y < duke.years;
    }

    private boolean isInvite(int i) {
        return i >= 0 && i < duke.invites.size();
    }

    public int rank(int rank, int what) {
        return isRank(rank) && what >= 0 && what < 4 ? duke.ranks.get(rank)[what] : -2;
    }

    public int plank(int plank, int what) {
        return plank >= 0 && plank < duke.planks.size() && what >= 0 && what < 2 ? duke.planks.get(plank)[what] : -2;
    }

    public int invite(int invite, int what) {
        return isInvite(invite) && what >= 0 && what < 3 ? duke.invites.get(invite)[what] : -2;
    }

    public int rain(int year) {
        return isYear(year) ? duke.rain(year) : -2;
    }

    public int frosts() {
        if (none()) {
            return -2;
        }
        int bits = 0;
        for (int y = 0; y < duke.years; y++) {
            bits += duke.frost(y) ? 1 << y : 0;
        }
        return bits;
    }

    // ---- water

    private static Years run(Duke d) {
        int n = d.ranks.size();
        Years out = new Years();
        out.water = new int[n][d.years];
        out.spills = new int[n][d.years];
        out.drained = new int[n][d.years];
        out.lost = new int[d.years];
        int[] w = new int[n];
        for (int r = 0; r < n; r++) {
            w[r] = d.ranks.get(r)[1];
        }
        for (int y = 0; y < d.years; y++) {
            if (!d.frost(y)) {
                for (int r = 0; r < n; r++) {
                    w[r] += d.rain(y);
                    int before = w[r];
                    w[r] = Math.max(0, w[r] - d.ranks.get(r)[2]);
                    out.drained[r][y] = before - w[r];
                }
            }
            overflow(d, w, out, y);
            for (int[] act : d.acts) {
                if (act[0] == 1 && act[2] == y) {
                    w[act[1]] = 0;
                }
            }
            for (int r = 0; r < n; r++) {
                out.water[r][y] = w[r];
            }
        }
        return out;
    }

    private static void overflow(Duke d, int[] w, Years out, int y) {
        int n = w.length;
        switch (d.law) {
            case 0:
                for (int r = 0; r < n; r++) {
                    while (w[r] > 99) {
                        w[r]--;
                        out.spills[r][y]++;
                        out.lost[y]++;
                    }
                }
                break;
            case 1:
                for (int r = 0; r < n; r++) {
                    while (w[r] > 5 * d.ranks.get(r)[0]) {
                        w[r]--;
                        out.spills[r][y]++;
                        if (r == n - 1) {
                            out.lost[y]++;
                        } else {
                            w[r + 1]++;
                        }
                    }
                }
                break;
            case 2:
                for (int r = n - 1; r >= 0; r--) {
                    while (w[r] > 5 * d.ranks.get(r)[0]) {
                        w[r]--;
                        out.spills[r][y]++;
                        if (r == 0) {
                            out.lost[y]++;
                        } else {
                            w[r - 1]++;
                        }
                    }
                }
                break;
            default:
                for (int r = 0; r < n; r++) {
                    while (w[r] > 5 * d.ranks.get(r)[0]) {
                        w[r]--;
                        out.spills[r][y]++;
                        out.lost[y]++;
                    }
                }
        }
    }

    public int water(int rank, int year) {
        return isRank(rank) && isYear(year) ? run(duke).water[rank][year] : -2;
    }

    public int spills(int rank, int year) {
        return isRank(rank) && isYear(year) ? run(duke).spills[rank][year] : -2;
    }

    public int lost(int year) {
        return isYear(year) ? run(duke).lost[year] : -2;
    }

    public int drained(int rank, int year) {
        return isRank(rank) && isYear(year) ? run(duke).drained[rank][year] : -2;
    }

    public int all(int year) {
        if (!isYear(year)) {
            return -2;
        }
        int sum = 0;
        for (int r = 0; isRank(r); r++) {
            sum += water(r, year);
        }
        return sum;
    }

    public int dry(int year) {
        if (!isYear(year)) {
            return -2;
        }
        int bits = 0;
        for (int r = 0; isRank(r); r++) {
            bits += water(r, year) == 0 ? 1 << r : 0;
        }
        return bits;
    }

    public int deepest(int year) {
        if (!isYear(year)) {
            return -2;
        }
        for (int w = 99; w >= 0; w--) {
            for (int r = 0; isRank(r); r++) {
                if (water(r, year) == w) {
                    return r;
                }
            }
        }
        return NONE;
    }

    public int most(int rank) {
        if (!isRank(rank)) {
            return -2;
        }
        int m = 0;
        for (int y = 0; y < duke.years; y++) {
            m = Math.max(m, water(rank, y));
        }
        return m;
    }

    public int dries(int rank) {
        if (!isRank(rank)) {
            return -2;
        }
        int y = 0;
        while (y < duke.years && water(rank, y) > 0) {
            y++;
        }
        return y == duke.years ? NONE : y;
    }

    public int wet(int rank) {
        if (!isRank(rank)) {
            return -2;
        }
        int n = 0;
        for (int y = 0; y < duke.years; y++) {
            n += water(rank, y) > 0 ? 1 : 0;
        }
        return n;
    }

    public int flood() {
        if (none()) {
            return -2;
        }
        int best = NONE;
        for (int y = 0; y < duke.years; y++) {
            if (lost(y) > 0 && (best == NONE || lost(y) > lost(best))) {
                best = y;
            }
        }
        return best;
    }

    public int rains() {
        if (none()) {
            return -2;
        }
        int sum = 0;
        for (int[] r : duke.rains) {
            sum += r[1] < duke.years ? r[0] : 0;
        }
        return sum;
    }

    // ---- who comes to whom

    private static boolean crosses(Duke d, Years w, int r, int o, int y) {
        if (d.frost(y) || w.water[o][y] <= d.ranks.get(r)[3] || (d.filledIn & 1 << o) != 0) {
            return true;
        }
        for (int[] p : d.planks) {
            if (p[1] == o && p[0] >= d.ranks.get(o)[0]) {
                return true;
            }
        }
        for (int[] act : d.acts) {
            if (act[0] == 0 && act[2] == o && act[1] >= d.ranks.get(o)[0]) {
                return true;
            }
        }
        return false;
    }

    private static boolean visits(Duke d, Years w, int r, int o, int y) {
        return r != o && crosses(d, w, r, r, y) && crosses(d, w, r, o, y);
    }

    public int lone() {
        if (none()) {
            return -2;
        }
        int bits = 0;
        for (int r = 0; isRank(r); r++) {
            boolean any = false;
            for (int y = 0; y < duke.years; y++) {
                any |= guests(r, y) != 0;
            }
            bits += any ? 0 : 1 << r;
        }
        return bits;
    }

    public int over(int rank, int other, int year) {
        if (!isRank(rank) || !isRank(other) || !isYear(year)) {
            return -2;
        }
        return crosses(duke, run(duke), rank, other, year) ? 1 : 0;
    }

    public int comes(int rank, int year) {
        if (!isRank(rank) || !isYear(year)) {
            return -2;
        }
        int bits = 0;
        for (int o = 0; isRank(o); o++) {
            bits += visits(duke, run(duke), rank, o, year) ? 1 << o : 0;
        }
        return bits;
    }

    public int guests(int rank, int year) {
        if (!isRank(rank) || !isYear(year)) {
            return -2;
        }
        int bits = 0;
        for (int o = 0; isRank(o); o++) {
            bits += (comes(o, year) & 1 << rank) != 0 ? 1 << o : 0;
        }
        return bits;
    }

    public int first(int rank, int other) {
        if (!isRank(rank) || !isRank(other) || rank == other) {
            return -2;
        }
        for (int y = 0; y < duke.years; y++) {
            if ((comes(rank, y) & 1 << other) != 0) {
                return y;
            }
        }
        return NONE;
    }

    public int often(int rank, int other) {
        if (!isRank(rank) || !isRank(other) || rank == other) {
            return -2;
        }
        int n = 0;
        for (int y = 0; y < duke.years; y++) {
            n += (comes(rank, y) & 1 << other) != 0 ? 1 : 0;
        }
        return n;
    }

    /** The fewest visits between all ranks, by trying every rank in between (Floyd and Warshall); 99: not at all. */
    private int[][] distances(int year) {
        int n = duke.ranks.size();
        int[][] far = new int[n][n];
        for (int a = 0; a < n; a++) {
            int c = comes(a, year);
            for (int b = 0; b < n; b++) {
                far[a][b] = a == b ? 0 : (c & 1 << b) != 0 ? 1 : 99;
            }
        }
        for (int k = 0; k < n; k++) {
            for (int a = 0; a < n; a++) {
                for (int b = 0; b < n; b++) {
                    far[a][b] = Math.min(far[a][b], far[a][k] + far[k][b]);
                }
            }
        }
        return far;
    }

    public int news(int rank, int other, int year) {
        if (!isRank(rank) || !isRank(other) || !isYear(year)) {
            return -2;
        }
        int far = distances(year)[rank][other];
        return far >= 99 ? NONE : far;
    }

    public int friends(int year) {
        if (!isYear(year)) {
            return -2;
        }
        int n = 0;
        for (int a = 0; isRank(a); a++) {
            n += Integer.bitCount(comes(a, year) & guests(a, year));
        }
        return n / 2;
    }

    public int fair() {
        if (none()) {
            return -2;
        }
        int best = 0;
        for (int y = 0; y < duke.years; y++) {
            best = friends(y) > friends(best) ? y : best;
        }
        return best;
    }

    public int fords(int rank, int year) {
        if (!isRank(rank) || !isYear(year)) {
            return -2;
        }
        int bits = 0;
        for (int o = 0; isRank(o); o++) {
            bits += over(rank, o, year) << o;
        }
        return bits;
    }

    public int shut(int year) {
        if (!isYear(year)) {
            return -2;
        }
        int bits = 0;
        for (int o = 0; isRank(o); o++) {
            bits += 1 - over(o, o, year) << o;
        }
        return bits;
    }

    public int widest(int year) {
        if (!isYear(year)) {
            return -2;
        }
        int m = 0;
        for (int[] row : distances(year)) {
            for (int far : row) {
                m = far < 99 ? Math.max(m, far) : m;
            }
        }
        return m;
    }

    // ---- invitations

    private static int keptBits(Duke d) {
        Years w = run(d);
        int bits = 0;
        for (int i = 0; i < d.invites.size(); i++) {
            int[] v = d.invites.get(i);
            bits += v[2] < d.years && visits(d, w, v[0], v[1], v[2]) ? 1 << i : 0;
        }
        return bits;
    }

    private static int keptSum(Duke d) {
        return Integer.bitCount(keptBits(d));
    }

    private static Duke filledIn(Duke d, int set) {
        Duke c = d.copy();
        c.filledIn |= set;
        return c;
    }

    public int kept(int invite) {
        return isInvite(invite) ? keptBits(duke) >> invite & 1 : -2;
    }

    public int keeps() {
        return none() ? -2 : keptBits(duke);
    }

    public int hinders(int invite) {
        if (!isInvite(invite)) {
            return -2;
        }
        int[] v = duke.invites.get(invite);
        if (v[2] >= duke.years) {
            return 0;
        }
        return (over(v[0], v[0], v[2]) == 0 ? 1 << v[0] : 0) | (over(v[0], v[1], v[2]) == 0 ? 1 << v[1] : 0);
    }

    private int of(int rank, int part) {
        int n = 0;
        for (int i = 0; isInvite(i); i++) {
            n += duke.invites.get(i)[part] == rank ? kept(i) : 0;
        }
        return n;
    }

    public int hosts(int rank) {
        return isRank(rank) ? of(rank, 1) : -2;
    }

    public int goes(int rank) {
        return isRank(rank) ? of(rank, 0) : -2;
    }

    public int host() {
        if (none()) {
            return -2;
        }
        for (int n = 8; n > 0; n--) {
            for (int r = 0; isRank(r); r++) {
                if (hosts(r) == n) {
                    return r;
                }
            }
        }
        return NONE;
    }

    public int idle() {
        if (none()) {
            return -2;
        }
        int bits = 0;
        for (int p = 0; p < duke.planks.size(); p++) {
            Duke c = duke.copy();
            c.planks.remove(p);
            bits += keptSum(c) == keptSum(duke) ? 1 << p : 0;
        }
        return bits;
    }

    // ---- what would be

    /** Every row in order, none first: {best, ways, then the first such row}. */
    private int[] laid() {
        int planks = duke.planks.size();
        int[] out = new int[2 + planks];
        out[0] = NONE;
        Duke c = duke.copy();
        Years w = run(c); // no plank changes the water
        int[] row = new int[planks];
        java.util.Arrays.fill(row, NONE);
        while (true) {
            for (int p = 0; p < planks; p++) {
                c.planks.get(p)[1] = row[p];
            }
            int n = 0;
            for (int[] v : c.invites) {
                n += v[2] < c.years && visits(c, w, v[0], v[1], v[2]) ? 1 : 0;
            }
            if (n > out[0]) {
                out[0] = n;
                out[1] = 0;
                System.arraycopy(row, 0, out, 2, planks);
            }
            out[1] += n == out[0] ? 1 : 0;
            int p = planks - 1;
            while (p >= 0 && row[p] == duke.ranks.size() - 1) {
                row[p] = NONE;
                p--;
            }
            if (p < 0) {
                return out;
            }
            row[p]++;
        }
    }

    public int best() {
        return none() ? -2 : laid()[0];
    }

    public int lay(int plank) {
        return plank >= 0 && plank < duke.planks.size() ? laid()[2 + plank] : -2;
    }

    public int ways() {
        return none() ? -2 : laid()[1];
    }

    public int fills() {
        return none() ? -2 : Integer.bitCount(filled());
    }

    public int filled() {
        if (none()) {
            return -2;
        }
        int all = 0;
        for (int[] v : duke.invites) {
            all += v[2] < duke.years ? 1 : 0;
        }
        for (int n = 0; n <= 6; n++) {
            for (int set = 0; set < 1 << duke.ranks.size(); set++) {
                if (Integer.bitCount(set) == n && keptSum(filledIn(duke, set)) == all) {
                    return set;
                }
            }
        }
        throw new IllegalStateException();
    }

    public int path() {
        if (none()) {
            return -2;
        }
        int best = NONE;
        int n = keptSum(duke);
        for (int r = 0; isRank(r); r++) {
            int k = worth(1 << r);
            if (k > n) {
                n = k;
                best = r;
            }
        }
        return best;
    }

    public int drain(int rank) {
        if (!isRank(rank)) {
            return -2;
        }
        int best = 0;
        int n = -1;
        for (int v = 0; v <= 20; v++) {
            Duke c = duke.copy();
            c.ranks.get(rank)[2] = v;
            if (keptSum(c) > n) {
                n = keptSum(c);
                best = v;
            }
        }
        return best;
    }

    public int learns(int rank) {
        if (!isRank(rank)) {
            return -2;
        }
        for (int v = 0; v <= 99; v++) {
            Duke c = duke.copy();
            c.ranks.get(rank)[3] = v;
            int kept = keptBits(c);
            boolean all = true;
            for (int i = 0; isInvite(i); i++) {
                int[] inv = duke.invites.get(i);
                all &= inv[0] != rank || inv[2] >= duke.years || (kept >> i & 1) == 1;
            }
            if (all) {
                return v;
            }
        }
        throw new IllegalStateException();
    }

    public int by(int law) {
        if (none() || law < 0 || law > 3) {
            return -2;
        }
        Duke c = duke.copy();
        c.law = law;
        return keptSum(c);
    }

    public int law() {
        if (none()) {
            return -2;
        }
        int best = 0;
        for (int l = 1; l < 4; l++) {
            best = by(l) > by(best) ? l : best;
        }
        return best;
    }

    // ---- what was seen

    private int seen(int slot, boolean such) {
        if (slot < 0 || slot > 3 || !such) {
            return -2;
        }
        if (slots[slot] == null) {
            return -6;
        }
        long[] row = slots[slot];
        if (row.length % 3 != 0) {
            return -2;
        }
        for (int i = 0; i < row.length; i += 3) {
            boolean ok = row[i] >= 0 && row[i] < duke.ranks.size() && row[i + 1] >= 0 && row[i + 1] < duke.years;
            if (!ok || row[i + 2] < 0 || row[i + 2] > 99) {
                return -2;
            }
        }
        return 0;
    }

    private static boolean agrees(Duke d, long[] row) {
        Years w = run(d);
        for (int i = 0; i < row.length; i += 3) {
            if (w.water[(int) row[i]][(int) row[i + 1]] != row[i + 2]) {
                return false;
            }
        }
        return true;
    }

    private Duke withTold(int rank, int water) {
        Duke c = duke.copy();
        c.ranks.get(rank)[1] = water;
        return c;
    }

    private List<Integer> such(int slot, int rank) {
        List<Integer> out = new ArrayList<>();
        for (int v = 0; v <= 99; v++) {
            if (agrees(withTold(rank, v), slots[slot])) {
                out.add(v);
            }
        }
        return out;
    }

    public int waters(int slot, int rank) {
        int s = seen(slot, isRank(rank));
        return s != 0 ? s : such(slot, rank).size();
    }

    public int least(int slot, int rank) {
        int s = seen(slot, isRank(rank));
        if (s != 0) {
            return s;
        }
        List<Integer> all = such(slot, rank);
        return all.isEmpty() ? NONE : all.get(0);
    }

    public int greatest(int slot, int rank) {
        int s = seen(slot, isRank(rank));
        if (s != 0) {
            return s;
        }
        List<Integer> all = such(slot, rank);
        return all.isEmpty() ? NONE : all.get(all.size() - 1);
    }

    /** {year or NONE, how many it leaves}. */
    private int[] asking(int slot, int rank) {
        List<Integer> all = such(slot, rank);
        int[] out = {NONE, all.size()};
        int[][][] waters = new int[100][][];
        for (int v : all) {
            waters[v] = run(withTold(rank, v)).water;
        }
        for (int y = 0; y < duke.years; y++) {
            int worst = 0;
            for (int v : all) {
                int same = 0;
                for (int u : all) {
                    same += waters[u][rank][y] == waters[v][rank][y] ? 1 : 0;
                }
                worst = Math.max(worst, same);
            }
            if (worst < out[1]) {
                out[0] = y;
                out[1] = worst;
            }
        }
        return out;
    }

    public int ask(int slot, int rank) {
        int s = seen(slot, isRank(rank));
        return s != 0 ? s : asking(slot, rank)[0];
    }

    public int leaves(int slot, int rank) {
        int s = seen(slot, isRank(rank));
        return s != 0 ? s : asking(slot, rank)[1];
    }

    public int laws(int slot) {
        int s = seen(slot, !none());
        if (s != 0) {
            return s;
        }
        int bits = 0;
        for (int l = 0; l < 4; l++) {
            Duke c = duke.copy();
            c.law = l;
            bits += agrees(c, slots[slot]) ? 1 << l : 0;
        }
        return bits;
    }

    // ---- shares and the game

    public int worth(int set) {
        if (none() || set < 0 || set >= 1 << duke.ranks.size()) {
            return -2;
        }
        return keptSum(filledIn(duke, set));
    }

    private long[] lowest(long above, long below) {
        long a = java.math.BigInteger.valueOf(above).gcd(java.math.BigInteger.valueOf(below)).longValue();
        return new long[] {above / a, below / a};
    }

    private void orders(int placed, int[] sums, int[] worths, int[] count) {
        int n = duke.ranks.size();
        if (placed == (1 << n) - 1) {
            count[0]++;
        }
        for (int r = 0; r < n; r++) {
            if ((placed & 1 << r) == 0) {
                int with = placed | 1 << r;
                int before = count[0];
                orders(with, sums, worths, count);
                sums[r] += (count[0] - before) * (worths[with] - worths[placed]);
            }
        }
    }

    public int share(int rank, int what) {
        if (!isRank(rank) || what < 0 || what > 1) {
            return -2;
        }
        int n = duke.ranks.size();
        int[] worths = new int[1 << n];
        for (int set = 0; set < worths.length; set++) {
            worths[set] = worth(set);
        }
        int[] sums = new int[n];
        int[] count = new int[1];
        orders(0, sums, worths, count);
        return (int) lowest(sums[rank], count[0])[what];
    }

    public int rests(int rank, int other) {
        if (!isRank(rank) || !isRank(other) || rank == other) {
            return -2;
        }
        int bits = 0;
        for (int x = 0; x < 2; x++) {
            for (int y = 0; y < 2; y++) {
                boolean a = gets(rank, other, 1 - x, y) > gets(rank, other, x, y);
                boolean b = gets(other, rank, 1 - y, x) > gets(other, rank, y, x);
                bits += a || b ? 0 : x == 0 && y == 0 ? 1 : x == 1 && y == 0 ? 2 : x == 0 ? 4 : 8;
            }
        }
        return bits;
    }

    public int gets(int rank, int other, int x, int y) {
        if (!isRank(rank) || !isRank(other) || rank == other || x < 0 || x > 1 || y < 0 || y > 1) {
            return -1000;
        }
        int kept = keptBits(filledIn(duke, (x == 1 ? 1 << rank : 0) | (y == 1 ? 1 << other : 0)));
        int sum = x == 1 ? -4 : 0;
        for (int i = 0; isInvite(i); i++) {
            int[] v = duke.invites.get(i);
            sum += (kept >> i & 1) == 1 && (v[0] == rank || v[1] == rank) ? 3 : 0;
        }
        return sum;
    }

    // ---- frosts by chance

    /** The sum over all frosts of years y .. last, of their tenths, times what a rank's coming or water is. */
    private long sum(Duke d, int y, int last, int rank, int other) {
        if (y > last) {
            Years w = run(d);
            return other == NONE ? w.water[rank][last] : visits(d, w, rank, other, last) ? 1 : 0;
        }
        Duke with = d.copy();
        with.frosts.removeIf(f -> f == y);
        Duke without = with.copy();
        with.frosts.add(y);
        return d.odds * sum(with, y + 1, last, rank, other) + (10 - d.odds) * sum(without, y + 1, last, rank, other);
    }

    public long chance(int rank, int other, int year, int what) {
        boolean ok = isRank(rank) && isRank(other) && rank != other && isYear(year) && year <= 7 && what >= 0 && what <= 1;
        return ok ? lowest(sum(duke, 0, year, rank, other), (long) Math.pow(10, year + 1))[what] : -2;
    }

    public long mean(int rank, int year, int what) {
        boolean ok = isRank(rank) && isYear(year) && year <= 7 && what >= 0 && what <= 1;
        return ok ? lowest(sum(duke, 0, year, rank, NONE), (long) Math.pow(10, year + 1))[what] : -2;
    }

    // ---- acts

    public int adds(int n, int rank) {
        if (n < 1 || n > 9 || !isRank(rank)) {
            return -2;
        }
        if (duke.acts.size() == 30) {
            return -5;
        }
        duke.acts.add(new int[] {0, n, rank});
        int bits = 0;
        for (int r = 0; isRank(r); r++) {
            bits += over(r, rank, 0) << r;
        }
        return bits;
    }

    public int dredge(int rank, int year) {
        if (!isRank(rank) || !isYear(year)) {
            return -2;
        }
        if (duke.acts.size() == 30) {
            return -5;
        }
        duke.acts.add(new int[] {1, rank, year});
        return water(rank, duke.years - 1);
    }

    public int undo() {
        if (none()) {
            return -2;
        }
        if (duke.acts.isEmpty()) {
            return -5;
        }
        duke.acts.remove(duke.acts.size() - 1);
        return duke.acts.size();
    }

    public int anew() {
        if (none()) {
            return -2;
        }
        int n = duke.acts.size();
        duke.acts.clear();
        return n;
    }

    // ---- years drawn

    private Duke drawnYears(long seed) {
        Duke c = duke.copy();
        c.frosts.clear();
        long x = seed;
        for (int y = 0; y < c.years; y++) {
            x = Math.floorMod(1103515245L * x + 12345L, 1L << 31);
            if ((x >> 16) % 10 < c.odds) {
                c.frosts.add(y);
            }
        }
        return c;
    }

    public int drawn(int seed, int what) {
        if (none() || seed < 0 || seed > 2000000000 || what < 0 || what > 1) {
            return -2;
        }
        Duke c = drawnYears(seed);
        if (what == 1) {
            return keptBits(c);
        }
        int bits = 0;
        for (int y : c.frosts) {
            bits += 1 << y;
        }
        return bits;
    }

    public int luck(int seed, int n, int invite) {
        if (seed < 0 || seed > 2000000000 || n < 1 || n > 20 || !isInvite(invite)) {
            return -2;
        }
        int sum = 0;
        for (long s = seed; s < (long) seed + n; s++) {
            sum += keptBits(drawnYears(s)) >> invite & 1;
        }
        return sum;
    }

    public int digs(int rank, int n) {
        if (!isRank(rank) || n < 1 || n > 9) {
            return -2;
        }
        if (!duke.acts.isEmpty()) {
            return -5;
        }
        int was = duke.ranks.get(rank)[0];
        duke.ranks.get(rank)[0] = n;
        return was;
    }

    public int count(int what) {
        int rows = 0;
        for (long[] s : slots) {
            rows += s == null ? 0 : 1;
        }
        int[] all = {
            duke.years, duke.law, duke.odds, duke.ranks.size(), duke.planks.size(), duke.rains.size(), duke.frosts.size(),
            duke.invites.size(), duke.acts.size(), duke.lines, tape.length(), rows
        };
        return what >= 0 && what < all.length ? all[what] : NONE;
    }

    // ---- images and slots

    public int image(int k) {
        if (k < 0 || k > 2) {
            return -2;
        }
        images[k] = duke.copy();
        return 0;
    }

    public int back(int k) {
        if (k < 0 || k > 2) {
            return -2;
        }
        if (images[k] == null) {
            return -6;
        }
        duke = images[k].copy();
        return 0;
    }

    public int row(int slot, int width, int n) {
        if (slot < 0 || slot > 3 || width < 0 || width > 3 || n > 60) {
            return -2;
        }
        if (n < 0) {
            return -3;
        }
        slots[slot] = new long[n];
        widths[slot] = width;
        return 0;
    }

    public int write(int slot, int i, long v) {
        if (slot < 0 || slot > 3) {
            return -2;
        }
        if (slots[slot] == null) {
            return -6;
        }
        if (i < 0 || i >= slots[slot].length) {
            return -7;
        }
        int bits = 64 - (8 << widths[slot]);
        slots[slot][i] = v << bits >> bits;
        return 0;
    }

    public int paste(int slot, int i, int to, int k, int n) {
        if (slot < 0 || slot > 3 || to < 0 || to > 3) {
            return -2;
        }
        if (slots[slot] == null || slots[to] == null) {
            return -6;
        }
        if (widths[slot] != widths[to]) {
            return -8;
        }
        boolean below = i < 0 || k < 0 || n < 0;
        if (below || (long) i + n > slots[slot].length || (long) k + n > slots[to].length) {
            return -7;
        }
        long[] were = slots[slot].clone();
        for (int j = 0; j < n; j++) {
            slots[to][k + j] = were[i + j];
        }
        return 0;
    }
}

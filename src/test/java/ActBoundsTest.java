/** Term IX's draws and promises 64 to 70, 72 and 73: each boundary that the document names, from both sides. */
public final class ActBoundsTest {
    private static final Due DUE = new Due("ActBoundsTest");
    private static final Refused NONE_SUCH = new Refused(DUE, -2);
    private static final String HEAD = "dukedom years 16 law 0 odds 0;";
    private static final String DEEP = "rank wide 9 water 99 drains 0 swims 0;";
    private static final String SIX = HEAD + DEEP.repeat(6);

    public static void main(String[] args) {
        adds();
        dredge();
        thirty();
        undoAndAnew();
        draws();
        luck();
        digs();
        images();
        DUE.close();
    }

    private static void adds() {
        DUE.says("64", "A PLANK n long (1 .. 9) more lies on a RANK's moat: RANKS who come over it in YEAR 0 then, as bits.");
        for (int n = 1; n <= 9; n++) {
            for (int wide = 1; wide <= 9; wide++) {
                MoatRanks x = Due.told(SIX.replace("wide 9", "wide " + wide));
                DUE.is(n + " long on " + wide, x.adds(n, 5), n >= wide ? 63 : 0);
                DUE.is("one act", x.count(8), 1);
                DUE.is("in the last year, too", x.over(0, 5, 15), n >= wide ? 1 : 0);
                DUE.is("not on another one's", x.over(0, 0, 0), 0);
            }
        }
        MoatRanks x = Due.told(HEAD + "rank wide 9 water 30 drains 1 swims 28; rank wide 9 water 99 drains 0 swims 29;"
                + "rank wide 9 water 99 drains 0 swims 30;");
        DUE.is("who swims 29 in year 0", x.adds(8, 0), 6);
        DUE.is("who swims 28 in year 1", x.over(0, 0, 1), 1);
        DUE.is("none swims 99", x.adds(1, 2), 0);
        DUE.is("all by it", x.adds(9, 2), 7);
        DUE.is("all still, by the longer one", x.adds(1, 2), 7);
        x = Due.told(SIX + "frost at 0;");
        DUE.is("all in frost", x.adds(1, 0), 63);
        DUE.is("none behind it", x.over(0, 0, 1), 0);
        DUE.says("64", "-2: there are none such;");
        MoatRanks y = Due.told(SIX);
        NONE_SUCH.two("adds", 8, 5, (n, rank) -> y.adds(n + 1, rank));
        DUE.is("0 long", y.adds(0, 0), -2);
        DUE.is("10 long", y.adds(10, 5), -2);
        DUE.is("nobody's", y.adds(1, 6), -2);
        DUE.is("no acts", y.count(8), 0);
        DUE.is("no ranks", Due.told(HEAD).adds(1, 0), -2);
        DUE.is("one rank", Due.told(HEAD + DEEP).adds(9, 1), -2);
        DUE.is("no dukedom", new MoatRanks().adds(1, 0), -2);
    }

    private static void dredge() {
        DUE.says("65", "A RANK's moat is dredged in a YEAR (II): its WATER in the last YEAR then.");
        for (int year = 0; year < 16; year++) {
            MoatRanks x = Due.told(HEAD + DEEP.repeat(6) + "rain 5 at 15; rain 2 at 14;");
            int due = year == 15 ? 0 : year == 14 ? 5 : 7;
            DUE.is("dredged in " + year, x.dredge(5, year), due);
            DUE.is("in the last year", x.water(5, 15), due);
            DUE.is("then", x.water(5, year), 0);
            DUE.is("ahead", year == 0 ? 99 : x.water(5, year - 1), 99);
            DUE.is("not another one's", x.water(4, 15), 99);
            DUE.is("one act", x.count(8), 1);
        }
        DUE.is("the only year", Due.told("dukedom years 1 law 0 odds 0;" + DEEP).dredge(0, 0), 0);
        DUE.says("65", "-2, -5 likewise.");
        MoatRanks x = Due.told(SIX);
        NONE_SUCH.two("dredge", 5, 15, x::dredge);
        DUE.is("no acts", x.count(8), 0);
        DUE.is("no ranks", Due.told(HEAD).dredge(0, 0), -2);
        DUE.is("one rank", Due.told(HEAD + DEEP).dredge(1, 0), -2);
        DUE.is("no year 3 of 3", Due.told("dukedom years 3 law 0 odds 0;" + DEEP).dredge(0, 3), -2);
        DUE.is("year 2 of 3", Due.told("dukedom years 3 law 0 odds 0;" + DEEP).dredge(0, 2), 0);
        DUE.is("no dukedom", new MoatRanks().dredge(0, 0), -2);
    }

    private static void thirty() {
        DUE.says("64", "-5: there were 30 acts.");
        MoatRanks x = Due.told(SIX + "invite 0 1 at 0;");
        for (int i = 1; i <= 30; i++) {
            DUE.is("act " + i, i % 2 == 0 ? x.adds(8, 0) : x.dredge(3, 15), 0);
            DUE.is("acts", x.count(8), i);
        }
        DUE.is("a 31st", x.adds(9, 0), -5);
        DUE.says("65", "-2, -5 likewise.");
        DUE.is("a 31st", x.dredge(0, 0), -5);
        DUE.is("it is not there", x.over(0, 0, 0), 0);
        DUE.is("it is not there", x.water(0, 0), 99);
        DUE.is("acts", x.count(8), 30);
        DUE.says("TEXT", "-2 is asked ahead of -5, -6.");
        DUE.is("none such", x.adds(0, 0), -2);
        DUE.is("none such", x.adds(10, 0), -2);
        DUE.is("none such", x.adds(9, 6), -2);
        DUE.is("none such", x.dredge(6, 0), -2);
        DUE.is("none such", x.dredge(0, 16), -2);
        DUE.is("undo", x.undo(), 29);
        DUE.is("a 30th again", x.adds(9, 0), 63);
        DUE.is("full again", x.dredge(0, 0), -5);
        DUE.is("all taken back", x.anew(), 30);
        DUE.is("room again", x.adds(9, 0), 63);
    }

    private static void undoAndAnew() {
        DUE.says("66", "The latest act is taken back: how many there are.");
        MoatRanks x = Due.told(SIX);
        for (int i = 0; i < 30; i++) {
            x.dredge(i % 6, i / 6);
        }
        for (int i = 29; i >= 0; i--) {
            DUE.is("dredged", x.dry(i / 6), i / 6 == 0 ? (1 << i % 6 + 1) - 1 : 63);
            DUE.is("undo", x.undo(), i);
            DUE.is("acts", x.count(8), i);
            DUE.is("taken back", x.dry(i / 6), i / 6 == 0 ? (1 << i % 6) - 1 : 63);
        }
        DUE.says("66", "-2: there is no DUKEDOM; -5: there is none.");
        DUE.is("none is left", x.undo(), -5);
        DUE.is("none still", x.undo(), -5);
        DUE.is("none of no ranks", Due.told(HEAD).undo(), -5);
        DUE.is("no dukedom", new MoatRanks().undo(), -2);
        x.adds(9, 0);
        x.adds(9, 1);
        DUE.is("the latest one", x.undo(), 1);
        DUE.is("stays", x.over(5, 0, 0), 1);
        DUE.is("is gone", x.over(5, 1, 0), 0);
        DUE.says("67", "All are: how many there were.");
        DUE.is("one", x.anew(), 1);
        DUE.is("is gone", x.over(5, 0, 0), 0);
        DUE.is("none", x.anew(), 0);
        DUE.is("none of no ranks", Due.told(HEAD).anew(), 0);
        for (int i = 0; i < 30; i++) {
            x.adds(9, i % 6);
        }
        DUE.is("thirty", x.anew(), 30);
        DUE.is("none is there", x.count(8), 0);
        DUE.is("nothing to undo", x.undo(), -5);
        DUE.is("as told", x.shut(0), 63);
        DUE.says("67", "-2 likewise.");
        DUE.is("no dukedom", new MoatRanks().anew(), -2);
    }

    private static final int[] SEEDS = {0, 1, 1999999999, 2000000000};
    private static final int[][] DRAWS = {
        {0, 8, 8, 7, 8, 7, 5, 1, 2, 0, 1, 2, 9, 8, 7, 5}, {8, 8, 3, 5, 1, 7, 0, 9, 2, 6, 9, 7, 4, 0, 5, 3},
        {3, 3, 6, 9, 1, 1, 9, 0, 5, 8, 9, 4, 0, 5, 3, 7}, {4, 3, 1, 7, 6, 2, 7, 7, 5, 4, 7, 0, 4, 8, 1, 3}
    };

    private static void draws() {
        DUE.says("IX", "DRAWS: x becomes (1103515245 x + 12345) modulo 2,147,483,648 (at first it is the seed); a draw: x / 65536, cut, modulo 10.");
        DUE.says("IX", "YEARS drawn: YEAR by YEAR a draw: below odds there is FROST.");
        DUE.says("68", "YEARS drawn (IX) from a seed (0 .. 2,000,000,000), what 0: those of FROST, as bits, 1: INVITES kept, as bits.");
        StringBuilder invites = new StringBuilder();
        for (int i = 0; i < 8; i++) {
            invites.append("invite 0 5 at ").append(2 * i + 1).append(";");
        }
        for (int odds = 0; odds <= 10; odds++) {
            for (int years : new int[] {1, 8, 15, 16}) {
                String head = "dukedom years " + years + " law 0 odds " + odds + ";";
                MoatRanks x = Due.told(head + DEEP.repeat(6) + "frost at 0; frost at 15;" + invites);
                for (int i = 0; i < SEEDS.length; i++) {
                    int frosts = 0;
                    int kept = 0;
                    for (int year = 0; year < years; year++) {
                        int bit = DRAWS[i][year] < odds ? 1 : 0;
                        frosts |= bit << year;
                        kept |= (year % 2) * bit << year / 2;
                    }
                    DUE.is("frosts by odds " + odds + " from " + SEEDS[i], x.drawn(SEEDS[i], 0), frosts);
                    DUE.is("kept by odds " + odds + " from " + SEEDS[i], x.drawn(SEEDS[i], 1), kept);
                }
                DUE.is("frosts stay as told", x.frosts(), years == 16 ? 32769 : 1);
            }
        }
        DUE.says("68", "-2: there are none such, no DUKEDOM.");
        MoatRanks x = Due.told(SIX);
        for (int seed : new int[] {-1, -2, Integer.MIN_VALUE, 2000000001, 2000000002, Integer.MAX_VALUE}) {
            DUE.is("drawn(" + seed + ", 0)", x.drawn(seed, 0), -2);
            DUE.is("drawn(" + seed + ", 1)", x.drawn(seed, 1), -2);
        }
        for (int what : new int[] {-1, 2, Integer.MIN_VALUE, Integer.MAX_VALUE}) {
            DUE.is("drawn(0, " + what + ")", x.drawn(0, what), -2);
            DUE.is("drawn(2000000000, " + what + ")", x.drawn(2000000000, what), -2);
        }
        x = Due.told("dukedom years 16 law 0 odds 10;");
        DUE.is("no ranks", x.drawn(2000000000, 0), 65535);
        DUE.is("no ranks", x.drawn(2000000000, 1), 0);
        DUE.is("no dukedom", new MoatRanks().drawn(0, 0), -2);
        DUE.is("no dukedom", new MoatRanks().drawn(0, 1), -2);
    }

    private static void luck() {
        DUE.says("69", "Of n (1 .. 20) such from seeds, the seed and 1, .., in how many an INVITE is kept.");
        // draws of year 0 and of year 15 from seeds 0 .. 19, and from 2,000,000,000 on
        int[][] firsts = {{0, 8, 8, 7, 7, 5, 6, 4, 4, 2, 3, 1, 1, 0, 0, 8, 9, 7, 7, 6}, {4, 2, 2, 1, 1, 9, 0, 8, 8, 6, 7, 5, 5, 4, 4, 2, 3, 1, 1, 0}};
        int[][] lasts = {{5, 3, 2, 0, 7, 5, 4, 2, 9, 7, 6, 3, 1, 0, 8, 5, 3, 2, 0, 7}, {3, 2, 1, 9, 6, 4, 3, 1, 8, 6, 5, 3, 0, 8, 7, 5, 2, 0, 9, 7}};
        for (int odds : new int[] {0, 1, 5, 9, 10}) {
            MoatRanks x = Due.told("dukedom years 16 law 0 odds " + odds + ";" + DEEP.repeat(6) + "invite 0 1 at 0;".repeat(7) + "invite 5 4 at 15;");
            for (int from = 0; from < 2; from++) {
                int seed = from == 0 ? 0 : 2000000000;
                int first = 0;
                int last = 0;
                for (int n = 1; n <= 20; n++) {
                    first += firsts[from][n - 1] < odds ? 1 : 0;
                    last += lasts[from][n - 1] < odds ? 1 : 0;
                    DUE.is("the first invite, " + n + " from " + seed, x.luck(seed, n, 0), first);
                    DUE.is("the last invite, " + n + " from " + seed, x.luck(seed, n, 7), last);
                }
            }
        }
        DUE.says("69", "-2: there are none such.");
        MoatRanks x = Due.told(SIX + "invite 0 1 at 0;".repeat(8));
        for (int seed : new int[] {-1, Integer.MIN_VALUE, 2000000001, Integer.MAX_VALUE}) {
            DUE.is("luck(" + seed + ", 1, 0)", x.luck(seed, 1, 0), -2);
            DUE.is("luck(" + seed + ", 20, 7)", x.luck(seed, 20, 7), -2);
        }
        for (int n : new int[] {-1, 0, 21, 22, Integer.MIN_VALUE, Integer.MAX_VALUE}) {
            DUE.is("luck(0, " + n + ", 0)", x.luck(0, n, 0), -2);
        }
        for (int invite : new int[] {-1, 8, 9, 32, Integer.MIN_VALUE, Integer.MAX_VALUE}) {
            DUE.is("luck(0, 1, " + invite + ")", x.luck(0, 1, invite), -2);
        }
        DUE.is("no invites", Due.told(SIX).luck(0, 1, 0), -2);
        DUE.is("the only one", Due.told(SIX + "invite 0 1 at 0;").luck(0, 1, 1), -2);
        DUE.is("no dukedom", new MoatRanks().luck(0, 1, 0), -2);
        x = Due.told("dukedom years 15 law 0 odds 10;" + DEEP.repeat(2) + "invite 0 1 at 15; invite 0 1 at 14;");
        DUE.is("of no year there is", x.luck(0, 20, 0), 0);
        DUE.is("of the last year", x.luck(0, 20, 1), 20);
    }

    private static void digs() {
        DUE.says("70", "wide of a RANK's moat is n (1 .. 9) from now on: what it was.");
        MoatRanks x = Due.told(SIX.replace("law 0", "law 3") + "plank 5 on 5;");
        int was = 9;
        for (int n : new int[] {1, 9, 2, 8, 5, 6, 6, 5, 4, 1}) {
            DUE.is("it was " + was, x.digs(5, n), was);
            DUE.is("5 times as much stays", x.water(5, 0), 5 * n);
            DUE.is("the plank is no shorter, or is", x.over(0, 5, 0), n <= 5 ? 1 : 0);
            DUE.is("from now on", x.rank(5, 0), n);
            DUE.is("not another one's", x.rank(4, 0), 9);
            was = n;
        }
        DUE.says("70", "-2: there are none such;");
        MoatRanks y = Due.told(SIX);
        NONE_SUCH.two("digs", 5, 8, (rank, n) -> y.digs(rank, n + 1));
        DUE.is("0 wide", y.digs(0, 0), -2);
        DUE.is("10 wide", y.digs(0, 10), -2);
        DUE.is("nobody's", y.digs(6, 1), -2);
        DUE.is("it stays", y.digs(0, 9), 9);
        DUE.is("no ranks", Due.told(HEAD).digs(0, 1), -2);
        DUE.is("no dukedom", new MoatRanks().digs(0, 1), -2);
        DUE.says("70", "-5: there are acts that are not taken back.");
        y.adds(1, 3);
        DUE.is("one act", y.digs(0, 1), -5);
        DUE.is("it stays", y.rank(0, 0), 9);
        DUE.is("none such ahead of acts", y.digs(0, 0), -2);
        DUE.is("none such ahead of acts", y.digs(6, 1), -2);
        y.undo();
        DUE.is("taken back", y.digs(0, 1), 9);
        y.dredge(0, 0);
        DUE.is("one act", y.digs(0, 2), -5);
        y.anew();
        DUE.is("taken back", y.digs(0, 2), 1);
        for (int i = 0; i < 30; i++) {
            y.dredge(0, 0);
        }
        DUE.is("thirty acts", y.digs(0, 3), -5);
        for (int i = 29; i > 0; i--) {
            y.undo();
            DUE.is(i + " acts", y.digs(0, 3), -5);
        }
        y.undo();
        DUE.is("none", y.digs(0, 3), 2);
    }

    private static void images() {
        DUE.says("72", "-2: no such k.");
        MoatRanks x = Due.told(SIX);
        NONE_SUCH.one("image", 0, 2, x::image);
        DUE.says("73", "-2: no such k; -6: it has nothing.");
        NONE_SUCH.one("back", 0, 2, x::back);
        for (int k = 0; k < 3; k++) {
            DUE.is("nothing", x.back(k), -6);
        }
        DUE.is("as it was", x.count(9), 7);
        DUE.says("72", "IMAGE k (0 .. 2) keeps the DUKEDOM, and acts: 0.");
        DUE.says("73", "It is as IMAGE k has it: 0.");
        for (int k = 0; k < 3; k++) {
            DUE.is("dig", x.digs(k, k + 1), 9);
            for (int i = 0; i < 10 * (k + 1); i++) {
                x.adds(9, k);
            }
            DUE.is("image " + k, x.image(k), 0);
            DUE.is("nothing in the next one", x.back(k + 1), k == 2 ? -2 : -6);
            x.anew();
        }
        for (int k : new int[] {2, 0, 1, 1, 2, 0}) {
            DUE.is("back to " + k, x.back(k), 0);
            DUE.is("acts", x.count(8), 10 * (k + 1));
            DUE.is("dug", x.rank(k, 0), k + 1);
            DUE.is("dug later, or not", x.rank(2, 0), k == 2 ? 3 : 9);
            DUE.is("over", x.fords(5, 15), 1 << k);
            DUE.is("full, or not", x.adds(1, 5), k == 2 ? -5 : 0);
            x.anew();
            DUE.is("anew", x.digs(5, 4), 9);
            Due.feedText(x, k == 1 ? "" : k == 0 ? HEAD : Texts.COURT);
            x.dukedom();
        }
        whole();
        DUE.says("72", "IMAGE k (0 .. 2) keeps the DUKEDOM, and acts: 0.");
        DUE.is("one line is told", x.count(9), 1);
        DUE.is("in place of another one", x.image(1), 0);
        x.back(2);
        DUE.is("thirty acts", x.count(8), 30);
        DUE.is("back", x.back(1), 0);
        DUE.is("one line", x.count(9), 1);
        DUE.is("no acts", x.count(8), 0);
        DUE.is("no ranks", x.count(3), 0);
        x = new MoatRanks();
        DUE.is("without a dukedom", x.image(0), 0);
        Due.feedText(x, SIX);
        x.dukedom();
        DUE.is("back to none", x.back(0), 0);
        for (int what = 0; what <= 11; what++) {
            DUE.is("count(" + what + ")", x.count(what), 0);
        }
        DUE.is("none", x.keeps(), -2);
        DUE.is("still none", x.back(0), 0);
        DUE.is("nothing in 1", x.back(1), -6);
    }

    /** Other numbers in each place than in COURT. */
    private static final String OTHER = "dukedom years 16 law 2 odds 7;" + "rank wide 7 water 33 drains 5 swims 11;".repeat(6)
            + "plank 9 on 5;".repeat(5) + "rain 13 at 0; rain 9 at 4; rain 1 at 1; rain 2 at 2; rain 3 at 3; frost at 0; frost at 1; frost at 4;"
            + "frost at 3;" + "invite 3 4 at 3;".repeat(8);

    private static MoatRanks imaged(String text, String other, int k) {
        MoatRanks x = Due.told(text);
        x.digs(1, 3);
        x.adds(2, 1);
        x.dredge(0, 1);
        x.adds(9, 2);
        x.dredge(1, 0);
        x.image(k);
        if (!other.isEmpty()) {
            Due.feedText(x, other);
            x.dukedom();
            for (int i = 0; i < 9; i++) {
                x.adds(1, 0);
            }
            x.back(k);
        }
        return x;
    }

    /** All that can be asked is as it was when the image was taken, whatever was told since. */
    private static void whole() {
        String two = "dukedom years 1 law 3 odds 1; rank wide 1 water 1 drains 1 swims 1;";
        for (int k = 0; k < 3; k++) {
            int image = k;
            for (String text : new String[] {Texts.COURT, OTHER, OTHER.replace("years 16", "years 7")}) {
                for (String other : new String[] {OTHER, two, Texts.COURT}) {
                    boolean same = State.of(() -> imaged(text, "", image)).equals(State.of(() -> imaged(text, other, image)));
                    DUE.is("all is as image " + k + " has it", same ? 1 : 0, 1);
                }
            }
        }
    }
}

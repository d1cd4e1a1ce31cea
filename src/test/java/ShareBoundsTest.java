/** Terms VII to IX and promises 58 to 63: each boundary that the document names, from both sides. */
public final class ShareBoundsTest {
    private static final Due DUE = new Due("ShareBoundsTest");
    private static final Refused NONE_SUCH = new Refused(DUE, -2);
    private static final Refused NO_GAME = new Refused(DUE, -1000);
    private static final String HEAD = "dukedom years 16 law 0 odds 0;";
    private static final String DEEP = rank(99, 0);
    private static final String DRY = rank(0, 0);
    private static final String SIX = HEAD + DEEP.repeat(6);
    private static final String RING = "invite 0 1 at 0; invite 1 2 at 0; invite 2 3 at 0; invite 3 4 at 0; invite 4 5 at 0; invite 5 0 at 0;";

    public static void main(String[] args) {
        worth();
        share();
        game();
        gets();
        chance();
        mean();
        refused();
        DUE.close();
    }

    private static String rank(int water, int drains) {
        return "rank wide 9 water " + water + " drains " + drains + " swims 0;";
    }

    private static String head(int years, int odds) {
        return "dukedom years " + years + " law 0 odds " + odds + ";";
    }

    private static void worth() {
        DUE.says("VII", "A set of RANKS whose moats are filled in is worth as many INVITES as are kept so.");
        DUE.says("58", "What a set of RANKS (bits) is worth (VII): INVITES kept, if their moats are filled in besides.");
        MoatRanks x = Due.told(SIX + RING);
        for (int set = 0; set < 64; set++) {
            int next = set >> 1 | (set & 1) << 5;
            DUE.is("worth(" + set + ")", x.worth(set), Integer.bitCount(set & next));
        }
        DUE.is("nothing was filled in", x.keeps(), 0);
        x = Due.told(SIX + "plank 9 on 0; frost at 15; invite 0 1 at 0; invite 4 5 at 15; invite 4 5 at 14;");
        DUE.is("of nobody: by frost", x.worth(0), 1);
        DUE.is("of 1, besides the plank", x.worth(2), 2);
        DUE.is("of all", x.worth(63), 3);
        DUE.says("58", "-2: there is no such set, no DUKEDOM.");
        NONE_SUCH.one("worth", 0, 63, x::worth);
        for (int ranks = 0; ranks <= 6; ranks++) {
            x = Due.told(HEAD + DEEP.repeat(ranks));
            DUE.is("the set of all " + ranks, x.worth((1 << ranks) - 1), 0);
            DUE.is("one more", x.worth(1 << ranks), -2);
            DUE.is("one more alone or with others", x.worth((1 << ranks + 1) - 1), -2);
            DUE.is("-1", x.worth(-1), -2);
        }
        NONE_SUCH.one("worth without a dukedom", 1, 0, new MoatRanks()::worth);
    }

    private static void fraction(String what, MoatRanks x, int rank, int above, int below) {
        DUE.is(what + ", above", x.share(rank, 0), above);
        DUE.is(what + ", below", x.share(rank, 1), below);
    }

    private static void share() {
        DUE.says("VII", "RANKS come in an order, each has what the set is worth more by it; each order is as likely: the mean (what is kept without"
                + " them is nobody's).");
        DUE.says("59", "SHARE of a RANK, above (what 0), below (1).");
        MoatRanks x = Due.told(SIX + RING);
        for (int rank = 0; rank < 6; rank++) {
            fraction("two halves", x, rank, 1, 1);
        }
        for (int n = 0; n <= 8; n++) {
            x = Due.told(SIX + "invite 0 5 at 15;".repeat(n));
            int[] above = {0, 1, 1, 3, 2, 5, 3, 7, 4};
            fraction("halves of " + n, x, 0, above[n], n % 2 == 0 ? 1 : 2);
            fraction("halves of " + n, x, 5, above[n], n % 2 == 0 ? 1 : 2);
            fraction("nothing by another one", x, 3, 0, 1);
            x = Due.told(HEAD + DRY + DEEP + "invite 0 1 at 15;".repeat(n));
            fraction("all of " + n, x, 1, n, 1);
            fraction("none of " + n, x, 0, 0, 1);
            x = Due.told(HEAD + DRY + DRY + "invite 0 1 at 15;".repeat(n));
            fraction("kept without them", x, 0, 0, 1);
            fraction("kept without them", x, 1, 0, 1);
            x = Due.told(head(15, 0) + DRY + DEEP + "invite 0 1 at 15;".repeat(n));
            fraction("of no year there is", x, 1, 0, 1);
        }
        x = Due.told(HEAD + DEEP + DEEP + DRY + "invite 0 1 at 0; invite 0 1 at 0; invite 1 0 at 0; invite 0 2 at 0;");
        fraction("3 halves and one", x, 0, 5, 2);
        fraction("3 halves", x, 1, 3, 2);
        fraction("one alone", Due.told(HEAD + DEEP), 0, 0, 1);
    }

    private static void game() {
        DUE.says("VIII", "Each of two RANKS fills in its moat, or not.");
        DUE.says("VIII", "REST: neither GETS more by the other choice alone.");
        DUE.says("60", "GAME (VIII): pairs of choices of two RANKS at REST, as bits: 1 neither fills in, 2 the first one does, 4 the other one, 8 both.");
        String three = HEAD + DEEP + DEEP + DRY;
        DUE.is("nothing to get", Due.told(three).rests(0, 1), 1);
        DUE.is("3 less 4", Due.told(three + "invite 0 2 at 0;").rests(0, 1), 1);
        DUE.is("6 less 4", Due.told(three + "invite 0 2 at 0; invite 2 0 at 15;").rests(0, 1), 2);
        DUE.is("the other one", Due.told(three + "invite 0 2 at 0; invite 2 0 at 15;").rests(1, 0), 4);
        DUE.is("both", Due.told(three + "invite 0 2 at 0; invite 2 0 at 15; invite 1 2 at 0; invite 2 1 at 0;").rests(0, 1), 8);
        DUE.is("one between them", Due.told(three + "invite 0 1 at 0;").rests(0, 1), 1);
        DUE.is("two between them", Due.told(three + "invite 0 1 at 0; invite 1 0 at 0;").rests(0, 1), 9);
        DUE.is("kept in any case", Due.told(HEAD + DRY + DRY + "invite 0 1 at 0; invite 1 0 at 0;").rests(0, 1), 1);
        DUE.is("of no year there is", Due.told(head(15, 0) + DEEP + DEEP + DRY + "invite 0 2 at 15; invite 2 0 at 15;").rests(0, 1), 1);
        DUE.is("one each, and one between them", Due.told(three + "invite 0 2 at 0; invite 0 1 at 0; invite 1 2 at 0;").rests(0, 1), 9);
        DUE.is("the last two of six", Due.told(SIX + "invite 4 5 at 0; invite 4 5 at 0;").rests(4, 5), 9);
        DUE.is("others do nothing", Due.told(SIX + "invite 4 5 at 0; invite 4 5 at 0;").rests(0, 5), 1);
    }

    private static void gets() {
        DUE.says("VIII", "It GETS 3 for each INVITE kept to it or of it, less 4, if it fills in.");
        DUE.says("61", "What the first of two GETS by the choices (1 it fills in, 0 not; below 0, too).");
        MoatRanks x = Due.told(SIX + "invite 0 5 at 15;".repeat(8));
        int[][] due = {{0, 0}, {-4, 20}};
        for (int own = 0; own < 2; own++) {
            for (int others = 0; others < 2; others++) {
                DUE.is("gets(0, 5, " + own + ", " + others + ")", x.gets(0, 5, own, others), due[own][others]);
                DUE.is("gets(5, 0, " + own + ", " + others + ")", x.gets(5, 0, own, others), due[own][others]);
                DUE.is("gets(3, 0, " + own + ", " + others + ")", x.gets(3, 0, own, others), -4 * own);
            }
        }
        DUE.is("nothing was filled in", x.keeps(), 0);
        x = Due.told(HEAD + DRY + DRY + DEEP + "invite 0 1 at 0; invite 1 0 at 0; invite 0 2 at 0; invite 1 2 at 0;");
        DUE.is("two kept without", x.gets(0, 1, 0, 0), 6);
        DUE.is("less 4 for nothing", x.gets(0, 1, 1, 0), 2);
        DUE.is("less nothing by the other one", x.gets(0, 1, 0, 1), 6);
        DUE.is("one more by the other one", x.gets(0, 2, 0, 1), 9);
        DUE.is("two to it", x.gets(2, 0, 1, 0), 2);
        DUE.is("none of others", x.gets(2, 0, 0, 0), 0);
    }

    private static void chance(String what, MoatRanks x, int rank, int other, int year, long above, long below) {
        DUE.is(what + ", above", x.chance(rank, other, year, 0), above);
        DUE.is(what + ", below", x.chance(rank, other, year, 1), below);
    }

    private static void chance() {
        DUE.says("IX", "FROSTS by chance: in each YEAR with odds in ten, by itself, in place of those told.");
        DUE.says("62", "FROSTS by chance (IX) in YEARS 0 to one (0 .. 7, one there is; behind it as told): the chance that a RANK COMES to another one"
                + " in it, above, below.");
        long[][] lowest = {{0, 1}, {1, 10}, {1, 5}, {3, 10}, {2, 5}, {1, 2}, {3, 5}, {7, 10}, {4, 5}, {9, 10}, {1, 1}};
        for (int odds = 0; odds <= 10; odds++) {
            DUE.says("IX", "FRACTIONS are told in lowest terms (0 / 1).");
            MoatRanks x = Due.told(head(16, odds) + DEEP.repeat(6) + "frost at 0; frost at 7;");
            chance("odds " + odds + " in year 0", x, 0, 5, 0, lowest[odds][0], lowest[odds][1]);
            chance("odds " + odds + " in year 7", x, 5, 0, 7, lowest[odds][0], lowest[odds][1]);
            DUE.is("frosts stay as told", x.frosts(), 129);
            chance("in frost or not", Due.told(head(1, odds) + DRY + DRY), 0, 1, 0, 1, 1);
        }
        // dry in year 7 only without any frost ahead of it: 9 ^ 8 of 10 ^ 8, and 1 of 10 by frost in year 7
        MoatRanks x = Due.told(head(8, 1) + rank(8, 1) + DRY);
        chance("dry or frost", x, 0, 1, 7, 53046721, 100000000);
        chance("dry or frost", x, 1, 0, 7, 53046721, 100000000);
        chance("frost alone", x, 0, 1, 6, 1, 10);
        x = Due.told(head(8, 9) + rank(8, 1) + DRY);
        chance("dry or frost", x, 0, 1, 7, 90000001, 100000000);
        x = Due.told(head(8, 5) + rank(8, 1) + DRY);
        chance("129 of 256", x, 0, 1, 7, 129, 256);
        DUE.says("62", "(0 .. 7, one there is;");
        for (int years = 1; years <= 16; years++) {
            x = Due.told(head(years, 10) + DEEP + DEEP);
            int last = Math.min(7, years - 1);
            DUE.is("the last year, " + last + " of " + years, x.chance(0, 1, last, 0), 1);
            DUE.is("the year behind", x.chance(0, 1, last + 1, 0), -2);
            DUE.is("the mean of the last year", x.mean(0, last, 0), 99);
            DUE.is("the mean of the year behind", x.mean(0, last + 1, 0), -2);
            DUE.is("year -1", x.chance(0, 1, -1, 0), -2);
            DUE.is("mean of year -1", x.mean(0, -1, 0), -2);
        }
    }

    private static void mean(String what, MoatRanks x, int rank, int year, long above, long below) {
        DUE.is(what + ", above", x.mean(rank, year, 0), above);
        DUE.is(what + ", below", x.mean(rank, year, 1), below);
    }

    private static void mean() {
        DUE.says("63", "The mean WATER of a RANK's moat in it, above, below.");
        MoatRanks x = Due.told(head(8, 1) + rank(1, 1) + rank(99, 0) + DRY + rank(8, 1));
        mean("one, if there is frost in all years", x, 0, 7, 1, 100000000);
        mean("one, if there is frost in year 0", x, 0, 0, 1, 10);
        mean("99", x, 1, 7, 99, 1);
        mean("none", x, 2, 7, 0, 1);
        mean("8 less 9 in ten a year", x, 3, 7, 4, 5);
        mean("8 less 9 in ten", x, 3, 0, 71, 10);
        x = Due.told(head(8, 0) + rank(9, 1) + "frost at 0; rain 1 at 0;");
        mean("odds 0: no frost", x, 0, 0, 9, 1);
        mean("odds 0: no frost", x, 0, 7, 2, 1);
        x = Due.told(head(8, 10) + rank(9, 1) + "rain 40 at 0;");
        mean("odds 10: frost", x, 0, 0, 9, 1);
        mean("odds 10: frost", x, 0, 7, 9, 1);
        x = Due.told(head(8, 5) + rank(99, 20) + "rain 40 at 7;");
        mean("99 or 79", x, 0, 0, 89, 1);
        x = Due.told("dukedom years 1 law 1 odds 5; rank wide 1 water 5 drains 0 swims 0; rank wide 1 water 0 drains 0 swims 0; rain 3 at 0;");
        mean("none, or 3 and 3: 5 at most", x, 1, 0, 5, 2);
        mean("5 in frost as without", x, 0, 0, 5, 1);
        x.dredge(1, 0);
        mean("dredged", x, 1, 0, 0, 1);
    }

    private static void refused() {
        MoatRanks x = Due.told(SIX + RING);
        DUE.says("59", "-2: there are none such.");
        NONE_SUCH.two("share", 5, 1, x::share);
        DUE.says("60", "-2: there are none such, one twice.");
        NONE_SUCH.two("rests", 5, 5, x::rests);
        DUE.says("61", "-1,000: there are none such, one twice.");
        NO_GAME.two("gets", 5, 5, (rank, other) -> x.gets(rank, other, 0, 0));
        NO_GAME.two("gets of choices", 1, 1, (own, others) -> x.gets(0, 5, own, others));
        MoatRanks y = Due.told(SIX + RING);
        DUE.says("62", "-2: there are none such, one twice.");
        NONE_SUCH.three("chance", 5, 5, 7, (rank, other, year) -> y.chance(rank, other, year, 0));
        NONE_SUCH.one("chance", 0, 1, what -> (int) y.chance(0, 5, 0, what));
        DUE.says("63", "-2: there are none such.");
        NONE_SUCH.two("mean", 5, 7, (rank, year) -> (int) y.mean(rank, year, 0));
        NONE_SUCH.one("mean", 0, 1, what -> (int) y.mean(0, 0, what));
        for (int rank = 0; rank < 6; rank++) {
            DUE.says("60", "-2: there are none such, one twice.");
            DUE.is("rests of one twice", y.rests(rank, rank), -2);
            DUE.says("61", "-1,000: there are none such, one twice.");
            DUE.is("gets of one twice", y.gets(rank, rank, 0, 1), -1000);
            DUE.says("62", "-2: there are none such, one twice.");
            DUE.is("chance of one twice", y.chance(rank, rank, 0, 0), -2);
        }
        DUE.is("choices and ranks none such", y.gets(6, 6, 2, 2), -1000);
        MoatRanks one = Due.told(HEAD + DEEP);
        DUE.is("share of one", one.share(0, 1), 1);
        NONE_SUCH.two("share of one", 0, 1, one::share);
        DUE.is("rests of one", one.rests(0, 1), -2);
        DUE.is("gets of one", one.gets(0, 1, 0, 0), -1000);
        DUE.is("chance of one", one.chance(0, 1, 0, 0), -2);
        DUE.is("mean of one", one.mean(0, 0, 0), 99);
        DUE.is("mean of another one", one.mean(1, 0, 0), -2);
    }
}

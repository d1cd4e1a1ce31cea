/** Terms III and IV and promises 23 to 34: each boundary that the document names, from both sides. */
public final class VisitBoundsTest {
    private static final Due DUE = new Due("VisitBoundsTest");
    private static final Refused NONE_SUCH = new Refused(DUE, -2);
    private static final String HEAD = "dukedom years 16 law 0 odds 0;";
    /** Six who come over no moat. */
    private static final String SIX = HEAD + rank(9, 99, 0).repeat(6);
    /** Six who come to all others up to the next one. */
    private static final String CHAIN = HEAD + rank(9, 1, 2) + rank(9, 2, 3) + rank(9, 3, 4) + rank(9, 4, 5) + rank(9, 5, 6) + rank(9, 6, 6);

    public static void main(String[] args) {
        swims();
        planks();
        frost();
        comes();
        firstAndOften();
        news();
        pairs();
        lone();
        fordsAndShut();
        refused();
        DUE.close();
    }

    private static String rank(int wide, int water, int swims) {
        return "rank wide " + wide + " water " + water + " drains 0 swims " + swims + ";";
    }

    private static void swims() {
        DUE.says("III", "One comes over a moat in a YEAR, if there is FROST, or its WATER is no more than how deep he swims,");
        for (int swims : new int[] {0, 1, 29, 30}) {
            MoatRanks x = Due.told(HEAD + rank(9, swims, swims) + rank(9, swims + 1, swims));
            DUE.says("24", "1 if a RANK comes over another one's moat (or its own: one twice) in a YEAR (III), else 0.");
            DUE.is("just so deep, its own", x.over(0, 0, 0), 1);
            DUE.is("just so deep, another one's", x.over(1, 0, 15), 1);
            DUE.is("one deeper, its own", x.over(1, 1, 0), 0);
            DUE.is("one deeper, another one's", x.over(0, 1, 15), 0);
            if (swims > 0) {
                DUE.is("one less deep", Due.told(HEAD + rank(9, swims - 1, swims)).over(0, 0, 0), 1);
            }
        }
    }

    private static void planks() {
        DUE.says("III", "or a PLANK on it is no shorter than it is wide, or it is filled in.");
        for (int wide = 1; wide <= 9; wide++) {
            for (int length = 1; length <= 9; length++) {
                String ranks = HEAD + rank(wide, 99, 0) + rank(wide, 99, 0);
                int due = length >= wide ? 1 : 0;
                MoatRanks x = Due.told(ranks + "plank " + length + " on 1;");
                DUE.is(length + " long on " + wide, x.over(0, 1, 0), due);
                DUE.is(length + " long on its own of " + wide, x.over(1, 1, 15), due);
                DUE.is("there is none on this one", x.over(0, 0, 0), 0);
                x = Due.told(ranks);
                x.adds(length, 0);
                DUE.is("an act's, " + length + " long on " + wide, x.over(1, 0, 0), due);
                DUE.is("there is none on this one", x.over(1, 1, 0), 0);
            }
        }
        MoatRanks x = Due.told(HEAD + rank(9, 99, 0) + "plank 8 on 0;".repeat(5));
        DUE.is("five short ones", x.over(0, 0, 0), 0);
        x.adds(8, 0);
        DUE.is("six short ones", x.over(0, 0, 0), 0);
        x = Due.told(HEAD + rank(9, 99, 0) + "plank 8 on 0;".repeat(4) + "plank 9 on 0;");
        DUE.is("the last of five", x.over(0, 0, 0), 1);
        x = Due.told(HEAD + rank(9, 99, 0) + "plank 9 on 0;" + "plank 8 on 0;".repeat(4));
        DUE.is("the first of five", x.over(0, 0, 0), 1);
        DUE.is("filled in", Due.told(SIX + "invite 0 1 at 0;").worth(3), 1);
        DUE.is("one alone is filled in", Due.told(SIX + "invite 0 1 at 0;").worth(1), 0);
        DUE.is("the other one alone", Due.told(SIX + "invite 0 1 at 0;").worth(2), 0);
    }

    private static void frost() {
        DUE.says("III", "if there is FROST,");
        MoatRanks x = Due.told(SIX + "frost at 0; frost at 15;");
        for (int year = 0; year < 16; year++) {
            DUE.is("over in " + year, x.over(5, 0, year), year == 0 || year == 15 ? 1 : 0);
        }
        DUE.is("frost of no year", Due.told(SIX.replace("years 16", "years 15") + "frost at 15;").often(0, 1), 0);
    }

    private static void comes() {
        DUE.says("III", "He COMES to another one, if he comes over his own moat and over that of the other one.");
        MoatRanks x = Due.told(HEAD + rank(1, 5, 5) + rank(1, 5, 4) + rank(1, 6, 5) + rank(1, 6, 6));
        DUE.says("25", "RANKS to whom a RANK COMES in a YEAR, as bits.");
        int[] comes = {2, 0, 0, 7};
        DUE.says("26", "RANKS who COME to a RANK in a YEAR, as bits.");
        int[] guests = {8, 9, 8, 0};
        for (int rank = 0; rank < 4; rank++) {
            DUE.is("comes(" + rank + ")", x.comes(rank, 0), comes[rank]);
            DUE.is("comes(" + rank + ") in the last year", x.comes(rank, 15), comes[rank]);
            DUE.is("guests(" + rank + ")", x.guests(rank, 0), guests[rank]);
            DUE.is("guests(" + rank + ") in the last year", x.guests(rank, 15), guests[rank]);
        }
        x = Due.told(SIX + "frost at 15;");
        for (int rank = 0; rank < 6; rank++) {
            DUE.is("to all but itself", x.comes(rank, 15), 63 - (1 << rank));
            DUE.is("all but itself", x.guests(rank, 15), 63 - (1 << rank));
            DUE.is("to none", x.comes(rank, 14), 0);
            DUE.is("none", x.guests(rank, 14), 0);
        }
        x = Due.told(HEAD + rank(1, 0, 0));
        DUE.is("one alone comes to none", x.comes(0, 0), 0);
        DUE.is("none comes to one alone", x.guests(0, 0), 0);
    }

    private static void firstAndOften() {
        DUE.says("27", "The first YEAR in which a RANK COMES to another one.");
        MoatRanks x = Due.told(SIX + "frost at 0; frost at 15;");
        DUE.is("in the first year", x.first(0, 5), 0);
        DUE.says("28", "In how many YEARS it does.");
        DUE.is("twice", x.often(0, 5), 2);
        x = Due.told(SIX + "frost at 15;");
        DUE.is("in the last year", x.first(5, 0), 15);
        DUE.is("once", x.often(5, 0), 1);
        DUE.says("27", "NONE: in none;");
        x = Due.told(SIX);
        DUE.is("in none", x.first(0, 1), -1);
        DUE.is("never", x.often(0, 1), 0);
        x = Due.told(HEAD + rank(1, 0, 0).repeat(6));
        DUE.is("always", x.first(5, 4), 0);
        DUE.is("16 times", x.often(5, 4), 16);
        x = Due.told(HEAD.replace("16", "1") + rank(1, 0, 0).repeat(2));
        DUE.is("once of one", x.often(0, 1), 1);
        x = Due.told(HEAD + rank(1, 2, 0).replace("drains 0", "drains 1") + rank(1, 0, 0));
        DUE.is("dry in year 1", x.first(1, 0), 1);
        DUE.is("from year 1 on", x.often(1, 0), 15);
    }

    private static void news() {
        MoatRanks x = Due.told(CHAIN);
        DUE.says("IV", "NEWS in one YEAR: from a RANK to one to whom it COMES, from that one to one to whom that one COMES, and so on.");
        DUE.says("29", "In how many visits at least NEWS (IV) comes from a RANK to another one in a YEAR (0: it is the same).");
        for (int from = 0; from < 6; from++) {
            for (int to = 0; to < 6; to++) {
                DUE.is("news(" + from + ", " + to + ")", x.news(from, to, 0), to > from ? to - from : from == to ? 0 : 1);
                DUE.is("news(" + from + ", " + to + ") in the last year", x.news(from, to, 15), to > from ? to - from : from == to ? 0 : 1);
            }
        }
        DUE.says("34", "The most visits in which NEWS (IV) comes from a RANK to any to whom it comes, in a YEAR.");
        DUE.is("five at most", x.widest(0), 5);
        DUE.is("five at most", x.widest(15), 5);
        DUE.says("29", "NONE: not at all;");
        x = Due.told(SIX + "frost at 7;");
        DUE.is("not at all", x.news(0, 5, 6), -1);
        DUE.is("the same, though it comes to none", x.news(5, 5, 6), 0);
        DUE.is("in frost", x.news(0, 5, 7), 1);
        DUE.is("the same in frost", x.news(5, 5, 7), 0);
        DUE.is("none has news of another", x.widest(6), 0);
        DUE.is("all of all", x.widest(7), 1);
        // 0 comes to 1, who can't come out; so news goes no farther, though 1 would come over 2's moat
        x = Due.told(HEAD + rank(1, 2, 5) + rank(1, 5, 4) + rank(1, 4, 4) + rank(1, 7, 9) + "frost at 15;");
        DUE.is("comes of 0", x.comes(0, 0), 6);
        DUE.is("of 1 who is shut in", x.news(1, 0, 0), -1);
        DUE.is("to 1", x.news(0, 1, 0), 1);
        DUE.is("2 to 0", x.news(2, 0, 0), 1);
        DUE.is("2 to 1 by 0", x.news(2, 1, 0), 2);
        DUE.is("2 to 3: nobody comes there", x.news(2, 3, 0), -1);
        DUE.is("3 to 1", x.news(3, 1, 0), 1);
        DUE.is("two at most", x.widest(0), 2);
        DUE.is("no ranks", Due.told(HEAD).widest(15), 0);
        DUE.is("one alone", Due.told(HEAD + rank(1, 0, 0)).widest(0), 0);
        DUE.is("one alone", Due.told(HEAD + rank(1, 9, 0)).news(0, 0, 15), 0);
    }

    private static void pairs() {
        DUE.says("30", "Pairs of RANKS each of whom COMES to the other one in a YEAR: how many.");
        MoatRanks x = Due.told(SIX + "frost at 15;");
        DUE.is("none", x.friends(14), 0);
        DUE.is("all of six", x.friends(15), 15);
        DUE.says("31", "The YEAR of most such pairs, the first of several.");
        DUE.is("the last year", x.fair(), 15);
        DUE.is("none in any: the first", Due.told(SIX).fair(), 0);
        DUE.is("all in all: the first", Due.told(HEAD + rank(1, 0, 0).repeat(6)).fair(), 0);
        DUE.is("two alike", Due.told(SIX + "frost at 15; frost at 3;").fair(), 3);
        DUE.is("the first year", Due.told(SIX + "frost at 0;").fair(), 0);
        DUE.is("the second year", Due.told(SIX + "frost at 1;").fair(), 1);
        // 15 pairs in frost of year 0, none in year 1, one from year 2 on, when the moats of 0 and 1 are dry
        x = Due.told(HEAD + rank(9, 2, 0).replace("drains 0", "drains 1").repeat(2) + rank(9, 99, 0).repeat(4) + "frost at 0;");
        DUE.is("all in frost", x.friends(0), 15);
        DUE.is("none behind it", x.friends(1), 0);
        DUE.is("one then", x.friends(2), 1);
        DUE.is("most in the first year", x.fair(), 0);
        DUE.is("those in a row", Due.told(CHAIN).friends(0), 5);
        x = Due.told(HEAD + rank(1, 5, 6) + rank(1, 6, 5) + rank(1, 7, 9));
        DUE.is("0 comes to 1, who can't come; 2 to both", x.friends(0), 0);
        x = Due.told(HEAD + rank(1, 5, 6) + rank(1, 6, 6) + rank(1, 7, 9));
        DUE.is("0 and 1", x.friends(0), 1);
        x = Due.told(HEAD);
        DUE.is("no ranks", x.friends(15), 0);
        DUE.is("no ranks: the first year", x.fair(), 0);
        DUE.is("one alone", Due.told(HEAD + rank(1, 0, 0)).friends(0), 0);
        DUE.says("31", "-2: there is no DUKEDOM.");
        DUE.is("no dukedom", new MoatRanks().fair(), -2);
    }

    private static void lone() {
        DUE.says("23", "RANKS to whom nobody COMES (III) in any YEAR, as bits.");
        DUE.is("six", Due.told(SIX).lone(), 63);
        DUE.is("none", Due.told(SIX + "frost at 15;").lone(), 0);
        DUE.is("none by frost of the first year", Due.told(SIX + "frost at 0;").lone(), 0);
        DUE.is("six by frost of no year", Due.told(SIX.replace("years 16", "years 15") + "frost at 15;").lone(), 63);
        DUE.is("one alone", Due.told(HEAD + rank(1, 0, 0) + "frost at 0;").lone(), 1);
        DUE.is("no ranks", Due.told(HEAD).lone(), 0);
        DUE.is("the deepest one", Due.told(HEAD + rank(1, 0, 0).repeat(5) + rank(1, 1, 0)).lone(), 32);
        DUE.is("the one who could come but can't come out is a guest of none", Due.told(HEAD + rank(1, 3, 2) + rank(1, 0, 0)).lone(), 3);
        DUE.is("the first rank alone comes to the last", Due.told(HEAD + rank(1, 0, 9) + rank(1, 9, 0).repeat(5)).lone(), 1);
        DUE.is("the last rank alone comes to the first", Due.told(HEAD + rank(1, 9, 0).repeat(5) + rank(1, 0, 9)).lone(), 32);
        DUE.says("23", "-2 likewise.");
        DUE.is("no dukedom", new MoatRanks().lone(), -2);
    }

    private static void fordsAndShut() {
        DUE.says("32", "RANKS (also itself) whose moats a RANK comes over in a YEAR, as bits.");
        MoatRanks x = Due.told(HEAD + rank(1, 0, 0) + rank(1, 1, 0) + rank(1, 2, 1) + rank(1, 3, 3) + rank(1, 30, 29) + rank(1, 31, 30) + "frost at 15;");
        int[] fords = {1, 1, 3, 15, 15, 31};
        for (int rank = 0; rank < 6; rank++) {
            DUE.is("fords(" + rank + ")", x.fords(rank, 0), fords[rank]);
            DUE.is("fords(" + rank + ") in frost", x.fords(rank, 15), 63);
            for (int other = 0; other < 6; other++) {
                DUE.is("over(" + rank + ", " + other + ")", x.over(rank, other, 0), fords[rank] >> other & 1);
            }
        }
        DUE.says("33", "RANKS who do not come over their own moats in a YEAR, as bits.");
        DUE.is("by one", x.shut(0), 2 + 4 + 16 + 32);
        DUE.is("in the last year ahead of frost", x.shut(14), 2 + 4 + 16 + 32);
        DUE.is("none in frost", x.shut(15), 0);
        DUE.is("all", Due.told(SIX).shut(15), 63);
        DUE.is("no ranks", Due.told(HEAD).shut(0), 0);
    }

    private static void refused() {
        MoatRanks x = Due.told(CHAIN);
        DUE.says("24", "-2: there are none such.");
        NONE_SUCH.three("over", 5, 5, 15, x::over);
        DUE.says("29", "-2: there are none such.");
        NONE_SUCH.three("news", 5, 5, 15, x::news);
        DUE.says("25", "-2 likewise.");
        NONE_SUCH.two("comes", 5, 15, x::comes);
        DUE.says("26", "-2 likewise.");
        NONE_SUCH.two("guests", 5, 15, x::guests);
        DUE.says("32", "-2: there are none such.");
        NONE_SUCH.two("fords", 5, 15, x::fords);
        DUE.says("30", "-2: there is none such.");
        NONE_SUCH.one("friends", 0, 15, x::friends);
        DUE.says("33", "-2: there is none such.");
        NONE_SUCH.one("shut", 0, 15, x::shut);
        DUE.says("34", "-2 likewise.");
        NONE_SUCH.one("widest", 0, 15, x::widest);
        x = Due.told(CHAIN);
        DUE.says("27", "-2: there are none such, one twice.");
        NONE_SUCH.two("first", 5, 5, x::first);
        DUE.says("28", "-2 likewise.");
        NONE_SUCH.two("often", 5, 5, x::often);
        for (int rank = 0; rank < 6; rank++) {
            DUE.says("27", "-2: there are none such, one twice.");
            DUE.is("first of one twice", x.first(rank, rank), -2);
            DUE.says("28", "-2 likewise.");
            DUE.is("often of one twice", x.often(rank, rank), -2);
        }
        x = Due.told(HEAD.replace("16", "1") + rank(1, 0, 0));
        NONE_SUCH.two("comes of one", 0, 0, x::comes);
        NONE_SUCH.two("guests of one", 0, 0, x::guests);
        NONE_SUCH.two("fords of one", 0, 0, x::fords);
        NONE_SUCH.one("friends of one year", 0, 0, x::friends);
        NONE_SUCH.one("shut of one year", 0, 0, x::shut);
        NONE_SUCH.one("widest of one year", 0, 0, x::widest);
        DUE.is("over(0, 0, 1)", x.over(0, 0, 1), -2);
        DUE.is("news(0, 0, 1)", x.news(0, 0, 1), -2);
        DUE.is("the same one, none such", x.news(1, 1, 0), -2);
        DUE.is("the same one, none such", x.over(1, 1, 0), -2);
        DUE.is("first(0, 1)", x.first(0, 1), -2);
        DUE.is("often(1, 0)", x.often(1, 0), -2);
    }
}

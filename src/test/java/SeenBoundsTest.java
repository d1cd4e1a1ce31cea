/** Term VI and promises 52 to 57: each boundary that the document names, from both sides. */
public final class SeenBoundsTest {
    private static final Due DUE = new Due("SeenBoundsTest");
    private static final String HEAD = "dukedom years 16 law 0 odds 0;";
    /** Six moats whose water stays as it is told. */
    private static final String SIX = HEAD + rank(9, 50, 0).repeat(6);

    public static void main(String[] args) {
        asTold();
        drained();
        lengths();
        ask();
        laws();
        noSuchSlotOrRank();
        noSuchNumber();
        nothing();
        DUE.close();
    }

    private static String rank(int wide, int water, int drains) {
        return "rank wide " + wide + " water " + water + " drains " + drains + " swims 0;";
    }

    private static void see(MoatRanks x, int slot, long... numbers) {
        x.row(slot, 3, numbers.length);
        for (int i = 0; i < numbers.length; i++) {
            x.write(slot, i, numbers[i]);
        }
    }

    private static void all(String what, MoatRanks x, int slot, int rank, int... due) {
        DUE.is("waters: " + what, x.waters(slot, rank), due[0]);
        DUE.is("least: " + what, x.least(slot, rank), due[1]);
        DUE.is("greatest: " + what, x.greatest(slot, rank), due[2]);
        DUE.is("ask: " + what, x.ask(slot, rank), due[3]);
        DUE.is("leaves: " + what, x.leaves(slot, rank), due[4]);
    }

    private static void refused(String what, MoatRanks x, int slot, int rank, int due) {
        all(what, x, slot, rank, due, due, due, due, due);
    }

    private static void asTold() {
        DUE.says("VI", "SEEN: a SLOT's row, three numbers each: a RANK, a YEAR, its WATER then.");
        DUE.says("52", "SEEN (VI): how many (0 .. 99) can be what a RANK's water was told as, by a SLOT's row.");
        MoatRanks x = Due.told(SIX);
        for (int slot = 0; slot < 4; slot++) {
            see(x, slot);
            all("nothing was seen", x, slot, 5, 100, 0, 99, 0, 1);
            for (int water : new int[] {0, 1, 98, 99}) {
                see(x, slot, 5, 15, water);
                all("rank 5 in year 15 was seen at " + water, x, slot, 5, 1, water, water, -1, 1);
            }
            see(x, slot, 5, 15, 50);
            all("another rank was seen as it is", x, slot, 0, 100, 0, 99, 0, 1);
        }
        x = Due.told(SIX);
        see(x, 0, 5, 15, 51);
        DUE.says("53", "NONE: none;");
        all("another rank was seen as it is not", x, 0, 0, 0, -1, -1, -1, 0);
        see(x, 0, 0, 0, 7, 0, 15, 7, 5, 0, 50);
        all("three seen", x, 0, 0, 1, 7, 7, -1, 1);
        see(x, 0, 0, 0, 7, 0, 15, 8);
        DUE.says("54", "NONE, -2, -6 likewise.");
        all("seen as it can't be", x, 0, 0, 0, -1, -1, -1, 0);
        x.dredge(0, 15);
        see(x, 0, 0, 15, 0);
        all("dredged, so nothing is known", x, 0, 0, 100, 0, 99, 0, 1);
        see(x, 0, 0, 14, 7, 0, 15, 0);
        all("dredged, but seen a year ahead", x, 0, 0, 1, 7, 7, -1, 1);
        DUE.is("the water stays as told", x.rank(0, 1), 50);
        DUE.is("and as it was", x.water(0, 14), 50);
        DUE.is("acts stay", x.count(8), 1);
    }

    private static void drained() {
        DUE.says("53", "The least such.");
        DUE.says("54", "The greatest such.");
        MoatRanks x = Due.told(HEAD + rank(9, 50, 20) + "rain 10 at 1;");
        see(x, 0, 0, 0, 0);
        all("0 to 20 leave none", x, 0, 0, 21, 0, 20, -1, 21);
        see(x, 0, 0, 0, 1);
        all("21 leaves one", x, 0, 0, 1, 21, 21, -1, 1);
        see(x, 0, 0, 0, 79);
        all("99 leaves 79", x, 0, 0, 1, 99, 99, -1, 1);
        see(x, 0, 0, 0, 80);
        all("none leaves 80", x, 0, 0, 0, -1, -1, -1, 0);
        see(x, 0, 0, 15, 0);
        all("all leave none at last; year 0 parts them", x, 0, 0, 100, 0, 99, 0, 21);
        see(x, 0, 0, 1, 0);
        all("0 to 30 leave none in year 1; 0 to 20 are alike in year 0", x, 0, 0, 31, 0, 30, 0, 21);
        x = Due.told("dukedom years 1 law 3 odds 0;" + rank(1, 0, 0) + rank(1, 0, 0));
        see(x, 0, 0, 0, 5);
        all("5 to 99 are at the brim", x, 0, 0, 95, 5, 99, -1, 95);
        see(x, 0, 0, 0, 6);
        all("none is above it", x, 0, 0, 0, -1, -1, -1, 0);
        x = Due.told("dukedom years 1 law 1 odds 0;" + rank(1, 0, 0) + rank(9, 0, 0));
        see(x, 0, 1, 0, 1);
        all("one came from it", x, 0, 0, 1, 6, 6, -1, 1);
        see(x, 0, 1, 0, 45);
        all("45 came, or more", x, 0, 0, 50, 50, 99, -1, 50);
        see(x, 0, 1, 0, 0);
        all("none came", x, 0, 0, 6, 0, 5, 0, 1);
    }

    private static void lengths() {
        DUE.says("52", "not three each;");
        for (int n = 0; n <= 60; n++) {
            MoatRanks x = Due.told(HEAD + rank(9, 0, 0) + rank(9, 0, 0));
            for (int width = 0; width < 4; width++) {
                x.row(width, width, n);
            }
            for (int slot = 0; slot < 4; slot++) {
                if (n % 3 != 0) {
                    refused(n + " numbers", x, slot, 0, -2);
                } else if (n > 0) {
                    all(n + " numbers", x, slot, 0, 1, 0, 0, -1, 1);
                    all(n + " numbers, of rank 0 alone", x, slot, 1, 100, 0, 99, 0, 1);
                }
                DUE.is("laws by " + n + " numbers", x.laws(slot), n % 3 == 0 ? 15 : -2);
            }
        }
    }

    private static void ask() {
        DUE.says("55", "The YEAR of which to know its WATER leaves fewest of these at worst, if fewer than now, the first of several.");
        DUE.says("56", "How many it leaves at worst (as now without).");
        MoatRanks x = Due.told("dukedom years 1 law 0 odds 0;" + rank(9, 50, 0));
        see(x, 0);
        all("the only year", x, 0, 0, 100, 0, 99, 0, 1);
        x.dredge(0, 0);
        DUE.says("55", "NONE: none;");
        all("dredged in the only year", x, 0, 0, 100, 0, 99, -1, 100);
        x = Due.told(HEAD + rank(9, 50, 0));
        see(x, 0);
        all("all years part all: the first", x, 0, 0, 100, 0, 99, 0, 1);
        x.dredge(0, 0);
        all("dredged from the first year on", x, 0, 0, 100, 0, 99, -1, 100);
        x = Due.told("dukedom years 2 law 0 odds 0;" + rank(9, 50, 0) + "rain 40 at 0; rain 40 at 0; rain 19 at 0;");
        see(x, 0);
        all("99 by any", x, 0, 0, 100, 0, 99, -1, 100);
        x = Due.told("dukedom years 2 law 0 odds 0;" + rank(9, 50, 0) + "rain 40 at 0; rain 40 at 0; rain 18 at 0;");
        see(x, 0);
        all("98 by 0, else 99", x, 0, 0, 100, 0, 99, 0, 99);
        MoatRanks y = Due.told("dukedom years 2 law 0 odds 0;" + rank(9, 50, 20) + "rain 40 at 1;".repeat(5));
        see(y, 0);
        all("21 are dry in year 0, all have 99 in year 1", y, 0, 0, 100, 0, 99, 0, 21);
        see(x, 0, 0, 0, 99);
        all("not 0", x, 0, 0, 99, 1, 99, -1, 99);
        see(x, 0, 0, 1, 98);
        all("0", x, 0, 0, 1, 0, 0, -1, 1);
    }

    private static void laws() {
        DUE.says("57", "LAWS (0 .. 3) by which it is as such a row tells, as bits.");
        for (int law = 0; law < 4; law++) {
            // the three have 9 0 6 by law 0, 5 4 5 by law 1, 5 1 5 by law 2, 5 0 5 by law 3
            MoatRanks x = Due.told("dukedom years 1 law " + law + " odds 0;" + rank(1, 9, 0) + rank(1, 0, 0) + rank(1, 6, 0));
            see(x, 0);
            DUE.is("nothing was seen: all", x.laws(0), 15);
            see(x, 0, 0, 0, 9);
            DUE.is("law 0", x.laws(0), 1);
            see(x, 0, 1, 0, 4);
            DUE.is("law 1", x.laws(0), 2);
            see(x, 0, 1, 0, 1);
            DUE.is("law 2", x.laws(0), 4);
            see(x, 0, 1, 0, 0, 0, 0, 5);
            DUE.is("law 3", x.laws(0), 8);
            see(x, 0, 1, 0, 0);
            DUE.is("laws 0 and 3", x.laws(0), 9);
            see(x, 0, 2, 0, 5);
            DUE.is("laws 1, 2 and 3", x.laws(0), 14);
            see(x, 0, 2, 0, 99);
            DUE.is("none", x.laws(0), 0);
            see(x, 0, 0, 0, 9, 1, 0, 4);
            DUE.is("each has one of both", x.laws(0), 0);
            DUE.is("the law stays", x.count(1), law);
        }
        MoatRanks x = Due.told(HEAD);
        see(x, 0);
        DUE.is("no ranks: all", x.laws(0), 15);
        see(x, 0, 0, 0, 0);
        DUE.is("no ranks: none such was seen", x.laws(0), -2);
    }

    private static void noSuchSlotOrRank() {
        DUE.says("52", "-2: there is no such SLOT, RANK,");
        for (int bad : new int[] {-1, 4, 5, 1000, Integer.MIN_VALUE, Integer.MAX_VALUE}) {
            MoatRanks x = Due.told(SIX);
            for (int slot = 0; slot < 4; slot++) {
                see(x, slot);
            }
            refused("no such slot", x, bad, 0, -2);
            DUE.says("57", "-2 (RANKS aside; no DUKEDOM),");
            DUE.is("laws of no such slot", x.laws(bad), -2);
            int badRank = bad == 4 ? 6 : bad == 5 ? 7 : bad;
            DUE.says("53", "-2, -6 likewise.");
            refused("no such rank", x, 0, badRank, -2);
            refused("no such slot, no such rank", x, bad, badRank, -2);
        }
        MoatRanks x = Due.told(HEAD + rank(9, 50, 0));
        see(x, 3);
        all("the last slot, the only rank", x, 3, 0, 100, 0, 99, 0, 1);
        refused("one rank", x, 3, 1, -2);
        x = Due.told(HEAD);
        see(x, 0);
        refused("no ranks", x, 0, 0, -2);
        x = new MoatRanks();
        see(x, 0);
        refused("no dukedom", x, 0, 0, -2);
        DUE.says("57", "-2 (RANKS aside; no DUKEDOM),");
        DUE.is("laws without a dukedom", x.laws(0), -2);
    }

    private static void noSuchNumber() {
        DUE.says("52", "a number is none such (WATER 0 .. 99; asked last),");
        long[][] bad = {
            {-1, 6, 7, 64, 256, 1L << 32, Long.MIN_VALUE, Long.MAX_VALUE}, {-1, 16, 17, 64, 256, 1L << 32, Long.MIN_VALUE, Long.MAX_VALUE},
            {-1, 100, 101, 256, 306, (1L << 32) + 50, Long.MIN_VALUE + 50, Long.MAX_VALUE}
        };
        for (int which = 0; which < 3; which++) {
            for (long n : bad[which]) {
                MoatRanks x = Due.told(SIX);
                long[] first = {0, 0, 50, 5, 15, 50};
                first[which] = n;
                see(x, 0, first);
                refused(n + " ahead", x, 0, 0, -2);
                DUE.is("laws: " + n + " ahead", x.laws(0), -2);
                long[] last = {0, 0, 50, 5, 15, 50};
                last[3 + which] = n;
                see(x, 0, last);
                refused(n + " behind", x, 0, 0, -2);
                DUE.is("laws: " + n + " behind", x.laws(0), -2);
            }
        }
        MoatRanks x = Due.told(SIX);
        x.row(0, 3, 60);
        for (int i = 2; i < 60; i += 3) {
            x.write(0, i, 50);
        }
        DUE.is("twenty seen", x.waters(0, 0), 1);
        x.write(0, 59, 100);
        DUE.is("the last of sixty", x.waters(0, 0), -2);
        x.write(0, 59, 99);
        DUE.is("99 is such", x.waters(0, 0), 0);
        x.write(0, 58, 15);
        x.write(0, 57, 5);
        DUE.is("rank 5, year 15 are such", x.waters(0, 0), 0);
        x.write(0, 58, 16);
        DUE.is("year 16 is not", x.waters(0, 0), -2);
        x.write(0, 58, 15);
        x.write(0, 57, 6);
        DUE.is("rank 6 is not", x.waters(0, 0), -2);
        x = Due.told("dukedom years 3 law 0 odds 0;" + rank(9, 50, 0).repeat(2));
        see(x, 0, 1, 2, 50);
        DUE.is("the last rank, the last year", x.waters(0, 0), 100);
        see(x, 0, 2, 2, 50);
        DUE.is("no such rank", x.waters(0, 0), -2);
        see(x, 0, 1, 3, 50);
        DUE.is("no such year", x.waters(0, 0), -2);
        // what a row tells is asked of the dukedom of now
        see(x, 0, 1, 2, 50);
        Due.feedText(x, "dukedom years 2 law 0 odds 0;" + rank(9, 50, 0).repeat(2));
        x.dukedom();
        DUE.is("no such year any more", x.waters(0, 0), -2);
    }

    private static void nothing() {
        DUE.says("52", "-6: it has nothing.");
        DUE.says("55", "-2, -6 likewise.");
        DUE.says("56", "-2, -6 likewise.");
        MoatRanks x = Due.told(SIX);
        for (int slot = 0; slot < 4; slot++) {
            refused("nothing in " + slot, x, slot, 5, -6);
            DUE.says("57", "-6 likewise.");
            DUE.is("laws of nothing", x.laws(slot), -6);
            DUE.says("TEXT", "-2 is asked ahead of -5, -6.");
            refused("nothing, no such rank", x, slot, 6, -2);
            refused("nothing, no such rank", x, slot, -1, -2);
        }
        see(x, 1);
        refused("nothing in 0 still", x, 0, 5, -6);
        all("a row of no numbers is not nothing", x, 1, 5, 100, 0, 99, 0, 1);
        x = Due.told(HEAD);
        DUE.is("no ranks: laws of nothing", x.laws(0), -6);
        refused("no ranks, nothing", x, 0, 0, -2);
        x = new MoatRanks();
        refused("no dukedom, nothing", x, 0, 0, -2);
        DUE.is("no dukedom, laws of nothing", x.laws(0), -2);
    }
}

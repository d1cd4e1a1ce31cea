/** Term II and promises 11 to 22: each boundary that the document names, from both sides. */
public final class WaterBoundsTest {
    private static final Due DUE = new Due("WaterBoundsTest");
    private static final Refused NONE_SUCH = new Refused(DUE, -2);
    private static final String FULL = head(16, 0) + rank(9, 99, 0).repeat(6);
    private static final String ONE = head(1, 0) + rank(9, 99, 0);

    public static void main(String[] args) {
        yearByYear();
        frost();
        brims();
        lawZero();
        runsOn();
        dredged();
        refused();
        allMoats();
        ofOneMoat();
        flood();
        rains();
        DUE.close();
    }

    private static String head(int years, int law) {
        return "dukedom years " + years + " law " + law + " odds 0;";
    }

    private static String rank(int wide, int water, int drains) {
        return "rank wide " + wide + " water " + water + " drains " + drains + " swims 0;";
    }

    private static void yearByYear() {
        DUE.says("II", "WATER of a moat in a YEAR: what it was in the YEAR ahead (as told ahead of YEAR 0), and, if there is no FROST in the YEAR,"
                + " RAIN of it (all told, together) more and then drains less (0 at least).");
        MoatRanks x = Due.told(head(16, 0) + rank(1, 10, 1) + rank(1, 99, 0) + rank(1, 99, 20));
        for (int year = 0; year < 16; year++) {
            DUE.says("11", "WATER (II) of a RANK's moat in a YEAR.");
            DUE.is("10, one less a year, in " + year, x.water(0, year), Math.max(0, 9 - year));
            DUE.is("99 stay in " + year, x.water(1, year), 99);
            DUE.is("99, 20 less a year, in " + year, x.water(2, year), year < 4 ? 79 - 20 * year : 0);
            DUE.says("14", "How much drains off a RANK's moat in a YEAR (II).");
            DUE.is("one drains while there is one, in " + year, x.drained(0, year), year < 10 ? 1 : 0);
            DUE.is("nothing drains in " + year, x.drained(1, year), 0);
            DUE.is("20, at last 19 drain, in " + year, x.drained(2, year), year < 4 ? 20 : year == 4 ? 19 : 0);
        }
        DUE.says("II", "RAIN of it (all told, together) more and then drains less (0 at least).");
        int[] told = {19, 20, 21};
        for (int i = 0; i < 3; i++) {
            x = Due.told(head(1, 0) + rank(1, told[i], 20));
            DUE.is("20 less than " + told[i], x.water(0, 0), Math.max(0, told[i] - 20));
            DUE.is("drained of " + told[i], x.drained(0, 0), Math.min(20, told[i]));
        }
        x = Due.told(head(1, 0) + rank(1, 0, 1) + "rain 1 at 0;");
        DUE.is("rain comes ahead of drains", x.water(0, 0), 0);
        DUE.is("drained", x.drained(0, 0), 1);
        x = Due.told(head(1, 0) + rank(1, 0, 2) + "rain 1 at 0; rain 1 at 0;");
        DUE.is("together", x.drained(0, 0), 2);
        x = Due.told(head(1, 0) + rank(1, 0, 0) + "rain 1 at 1; rain 40 at 15;");
        DUE.is("rain of no year", x.water(0, 0), 0);
        x = Due.told(head(16, 0) + rank(1, 0, 0) + "rain 3 at 15;");
        DUE.is("no rain yet", x.water(0, 14), 0);
        DUE.is("rain of the last year", x.water(0, 15), 3);
    }

    private static void frost() {
        String text = rank(1, 4, 1) + "rain 7 at 0; rain 9 at 15;";
        DUE.says("II", "if there is no FROST in the YEAR, RAIN of it (all told, together) more and then drains less");
        MoatRanks x = Due.told(head(16, 0) + text + "frost at 0; frost at 15;");
        DUE.is("as told in frost of year 0", x.water(0, 0), 4);
        DUE.is("nothing drains", x.drained(0, 0), 0);
        DUE.is("one drains in year 1", x.water(0, 1), 3);
        DUE.is("drained", x.drained(0, 1), 1);
        DUE.is("no rain in frost of the last year", x.water(0, 15), 0);
        x = Due.told(head(16, 0) + text);
        DUE.is("without frost", x.water(0, 0), 10);
        DUE.is("without frost", x.water(0, 15), 8);
        x = Due.told(head(15, 0) + text + "frost at 15;");
        DUE.is("frost of no year", x.water(0, 0), 10);
        DUE.says("II", "Then, FROST or not, by LAW what is above its BRIM (5 times wide) runs over,");
        x = Due.told(head(2, 3) + rank(1, 99, 20) + "frost at 0;");
        DUE.is("over in frost", x.spills(0, 0), 94);
        DUE.is("at its brim", x.water(0, 0), 5);
        DUE.is("lost in frost", x.lost(0), 94);
        DUE.is("drained behind it", x.drained(0, 1), 5);
    }

    private static void brims() {
        DUE.says("II", "by LAW what is above its BRIM (5 times wide) runs over,");
        for (int law = 1; law <= 3; law++) {
            for (int wide = 1; wide <= 9; wide++) {
                for (int above = -1; above <= 1; above++) {
                    MoatRanks x = Due.told(head(1, law) + rank(wide, 5 * wide + above, 0));
                    DUE.is("law " + law + ": stays of " + wide + ", " + above, x.water(0, 0), 5 * wide + Math.min(0, above));
                    DUE.is("law " + law + ": runs over of " + wide + ", " + above, x.spills(0, 0), Math.max(0, above));
                    DUE.is("law " + law + ": lost of " + wide + ", " + above, x.lost(0), Math.max(0, above));
                }
            }
        }
        MoatRanks x = Due.told(head(1, 3) + rank(1, 5, 1) + "rain 1 at 0;");
        DUE.is("drains come ahead of it", x.spills(0, 0), 0);
    }

    private static void lawZero() {
        DUE.says("II", "0: not at all (99 stay at most, the rest is lost).");
        DUE.says("12", "How much of its moat runs over in a YEAR (lost, or to another one; by LAW 0 what is above 99).");
        for (int rain = 1; rain <= 3; rain++) {
            MoatRanks x = Due.told(head(1, 0) + rank(1, 97, 0) + rank(1, 0, 0) + "rain " + rain + " at 0;");
            DUE.is("stays", x.water(0, 0), Math.min(99, 97 + rain));
            DUE.is("above 99", x.spills(0, 0), Math.max(0, rain - 2));
            DUE.is("lost", x.lost(0), Math.max(0, rain - 2));
            DUE.is("to nobody", x.water(1, 0), rain);
        }
        MoatRanks x = Due.told(head(1, 0) + rank(1, 99, 20) + "rain 40 at 0;".repeat(5));
        DUE.is("99 stay", x.water(0, 0), 99);
        DUE.is("99 and 200, less 20 and 99", x.spills(0, 0), 180);
        x = Due.told(head(16, 0) + rank(9, 99, 0).repeat(6) + "rain 40 at 15;".repeat(5));
        for (int rank = 0; rank < 6; rank++) {
            DUE.is("nothing in year 14", x.spills(rank, 14), 0);
            DUE.is("all of the rain", x.spills(rank, 15), 200);
        }
        DUE.says("13", "How much is lost in a YEAR by running over.");
        DUE.is("nothing", x.lost(14), 0);
        DUE.is("six times 200", x.lost(15), 1200);
    }

    private static void six(int law, int[] told, int[] spills, int[] water, int lost) {
        StringBuilder text = new StringBuilder(head(1, law));
        for (int t : told) {
            text.append(rank(1, t, 0));
        }
        MoatRanks x = Due.told(text.toString());
        for (int rank = 0; rank < told.length; rank++) {
            DUE.is("law " + law + ": runs over of " + rank, x.spills(rank, 0), spills[rank]);
            DUE.is("law " + law + ": stays of " + rank, x.water(rank, 0), water[rank]);
        }
        DUE.is("law " + law + ": lost", x.lost(0), lost);
    }

    private static void runsOn() {
        int[] full = {5, 5, 5, 5, 5, 5};
        DUE.says("II", "1: to the next RANK's moat, from RANK 0 on one behind the other (that of the last one is lost).");
        six(1, new int[] {99, 5, 5, 5, 5, 5}, new int[] {94, 94, 94, 94, 94, 94}, full, 94);
        six(1, new int[] {5, 5, 5, 5, 5, 99}, new int[] {0, 0, 0, 0, 0, 94}, full, 94);
        six(1, new int[] {6, 6, 6, 6, 6, 6}, new int[] {1, 2, 3, 4, 5, 6}, full, 6);
        six(1, new int[] {6, 6, 6, 4, 6, 6}, new int[] {1, 2, 3, 2, 3, 4}, full, 4);
        six(1, new int[] {6, 4, 0, 0, 0, 0}, new int[] {1, 0, 0, 0, 0, 0}, new int[] {5, 5, 0, 0, 0, 0}, 0);
        six(1, new int[] {6}, new int[] {1}, new int[] {5}, 1);
        DUE.says("II", "2: to the one ahead, from the last RANK on (that of RANK 0 is lost).");
        six(2, new int[] {5, 5, 5, 5, 5, 99}, new int[] {94, 94, 94, 94, 94, 94}, full, 94);
        six(2, new int[] {99, 5, 5, 5, 5, 5}, new int[] {94, 0, 0, 0, 0, 0}, full, 94);
        six(2, new int[] {6, 6, 6, 6, 6, 6}, new int[] {6, 5, 4, 3, 2, 1}, full, 6);
        six(2, new int[] {6, 6, 4, 6, 6, 6}, new int[] {4, 3, 2, 3, 2, 1}, full, 4);
        six(2, new int[] {0, 0, 0, 0, 4, 6}, new int[] {0, 0, 0, 0, 0, 1}, new int[] {0, 0, 0, 0, 5, 5}, 0);
        six(2, new int[] {6}, new int[] {1}, new int[] {5}, 1);
        DUE.says("II", "3: it is lost.");
        six(3, new int[] {99, 5, 0, 4, 6, 99}, new int[] {94, 0, 0, 0, 1, 94}, new int[] {5, 5, 0, 4, 5, 5}, 189);
        six(3, new int[] {6, 6, 6, 6, 6, 6}, new int[] {1, 1, 1, 1, 1, 1}, full, 6);
    }

    private static void dredged() {
        DUE.says("II", "Then moats dredged in the YEAR (acts, as they were given) have 0.");
        MoatRanks x = Due.told(head(3, 1) + rank(1, 9, 1) + rank(9, 7, 0) + "rain 2 at 2; frost at 1;");
        x.dredge(0, 0);
        DUE.is("ran over ahead of it", x.spills(0, 0), 3);
        DUE.is("to the next one, where it stays", x.water(1, 0), 10);
        DUE.is("drained ahead of it", x.drained(0, 0), 1);
        DUE.is("none", x.water(0, 0), 0);
        DUE.is("none behind it", x.water(0, 1), 0);
        DUE.is("rain behind it", x.water(0, 2), 1);
        x.dredge(0, 2);
        DUE.is("none in the last year", x.water(0, 2), 0);
        DUE.is("drained in the last year", x.drained(0, 2), 1);
        x.dredge(1, 1);
        DUE.is("in frost, too", x.water(1, 1), 0);
        DUE.is("not ahead of it", x.water(1, 0), 10);
        DUE.is("rain", x.water(1, 2), 2);
        x = Due.told(head(2, 3) + rank(1, 9, 0) + rank(1, 5, 0) + "rain 2 at 1;");
        for (int acts = 1; acts <= 3; acts++) {
            x.dredge(1, 0);
            DUE.is("lost is what it was, behind " + acts, x.lost(0), 4);
            DUE.is("lost behind it: 2 of moat 0", x.lost(1), 2);
        }
        x = Due.told(head(3, 1) + rank(1, 9, 1) + rank(9, 7, 0) + "rain 2 at 2; frost at 1;");
        x.dredge(0, 0);
        x.dredge(1, 1);
        x.dredge(1, 1);
        DUE.is("twice", x.water(1, 1), 0);
        x.undo();
        DUE.is("once", x.water(1, 1), 0);
        x.undo();
        DUE.is("no more", x.water(1, 1), 10);
    }

    private static void refused() {
        MoatRanks x = Due.told(FULL);
        DUE.says("11", "-2: there are none such.");
        NONE_SUCH.two("water", 5, 15, x::water);
        DUE.says("12", "-2 likewise.");
        NONE_SUCH.two("spills", 5, 15, x::spills);
        DUE.says("14", "-2: there are none such.");
        NONE_SUCH.two("drained", 5, 15, x::drained);
        DUE.says("13", "-2: there is none such.");
        NONE_SUCH.one("lost", 0, 15, x::lost);
        DUE.says("15", "-2: there is none such.");
        NONE_SUCH.one("all", 0, 15, x::all);
        DUE.says("16", "-2 likewise.");
        NONE_SUCH.one("dry", 0, 15, x::dry);
        DUE.says("17", "-2 likewise.");
        NONE_SUCH.one("deepest", 0, 15, x::deepest);
        x = Due.told(FULL);
        DUE.says("18", "-2: there is none such.");
        NONE_SUCH.one("most", 0, 5, x::most);
        DUE.says("19", "-2 likewise.");
        NONE_SUCH.one("dries", 0, 5, x::dries);
        DUE.says("20", "-2: there is none such.");
        NONE_SUCH.one("wet", 0, 5, x::wet);
        x = Due.told(ONE);
        NONE_SUCH.two("water of one", 0, 0, x::water);
        NONE_SUCH.two("spills of one", 0, 0, x::spills);
        NONE_SUCH.two("drained of one", 0, 0, x::drained);
        NONE_SUCH.one("lost of one", 0, 0, x::lost);
        NONE_SUCH.one("all of one", 0, 0, x::all);
        NONE_SUCH.one("dry of one", 0, 0, x::dry);
        NONE_SUCH.one("deepest of one", 0, 0, x::deepest);
        NONE_SUCH.one("most of one", 0, 0, x::most);
        NONE_SUCH.one("dries of one", 0, 0, x::dries);
        NONE_SUCH.one("wet of one", 0, 0, x::wet);
    }

    private static void allMoats() {
        MoatRanks x = Due.told(FULL);
        DUE.says("15", "WATER of all moats in a YEAR.");
        DUE.is("six times 99", x.all(0), 594);
        DUE.is("six times 99", x.all(15), 594);
        DUE.says("16", "RANKS with no WATER in a YEAR, as bits.");
        DUE.is("none is dry", x.dry(15), 0);
        DUE.says("17", "The RANK with most WATER in a YEAR, the first of several.");
        DUE.is("the first of six", x.deepest(15), 0);
        x = Due.told(head(16, 0) + rank(1, 15, 1).repeat(5) + rank(1, 16, 1));
        DUE.is("the last one by one", x.deepest(0), 5);
        DUE.is("16 of 1 left", x.deepest(14), 5);
        DUE.is("all have none", x.deepest(15), 0);
        DUE.is("five are dry", x.dry(14), 31);
        DUE.is("none is dry a year ahead", x.dry(13), 0);
        DUE.is("six are dry", x.dry(15), 63);
        DUE.is("one in all", x.all(14), 1);
        DUE.is("none in all", x.all(15), 0);
        x.dredge(5, 0);
        DUE.is("the last one is dredged", x.dry(0), 32);
        DUE.is("the first of the others", x.deepest(0), 0);
        x = Due.told(head(16, 1));
        DUE.is("all of no ranks", x.all(15), 0);
        DUE.is("dry of no ranks", x.dry(15), 0);
        DUE.says("17", "NONE: there are none;");
        DUE.is("deepest of no ranks", x.deepest(0), -1);
        DUE.is("deepest of no ranks", x.deepest(15), -1);
        DUE.is("no such year ahead of no ranks", x.deepest(16), -2);
        DUE.is("lost of no ranks", x.lost(15), 0);
    }

    private static void ofOneMoat() {
        DUE.says("18", "The greatest WATER of a RANK's moat in any YEAR.");
        MoatRanks x = Due.told(head(16, 0) + rank(1, 0, 0) + rank(1, 99, 0) + rank(1, 16, 1) + rank(1, 17, 1) + rank(1, 1, 1) + rank(1, 1, 0)
                + "rain 1 at 15;");
        int[] most = {1, 99, 15, 16, 0, 2};
        int[] dries = {0, -1, -1, -1, 0, -1};
        int[] wet = {1, 16, 16, 16, 0, 16};
        for (int rank = 0; rank < 6; rank++) {
            DUE.is("most of " + rank, x.most(rank), most[rank]);
            DUE.is("dries of " + rank, x.dries(rank), dries[rank]);
            DUE.is("wet of " + rank, x.wet(rank), wet[rank]);
        }
        x = Due.told(head(16, 0) + rank(1, 15, 1) + rank(1, 16, 1) + rank(1, 17, 1));
        DUE.says("19", "The first YEAR in which it has none.");
        DUE.is("in year 14", x.dries(0), 14);
        DUE.is("in the last year", x.dries(1), 15);
        DUE.says("19", "NONE: in none;");
        DUE.is("in none", x.dries(2), -1);
        DUE.says("20", "In how many YEARS a RANK's moat has WATER above 0.");
        DUE.is("14", x.wet(0), 14);
        DUE.is("15", x.wet(1), 15);
        DUE.is("16", x.wet(2), 16);
        x = Due.told(ONE);
        DUE.is("one year", x.wet(0), 1);
        x.dredge(0, 0);
        DUE.is("dredged", x.wet(0), 0);
        DUE.is("dredged", x.dries(0), 0);
        DUE.is("told is no year", x.most(0), 0);
    }

    private static void flood() {
        DUE.says("21", "The YEAR in which most is lost(), the first of several, if any is.");
        String one = head(16, 3) + rank(1, 5, 0);
        DUE.is("the last year", Due.told(one + "rain 1 at 0; rain 2 at 15;").flood(), 15);
        DUE.is("the first of two", Due.told(one + "rain 2 at 0; rain 2 at 15;").flood(), 0);
        DUE.is("one", Due.told(one + "rain 1 at 7;").flood(), 7);
        DUE.is("lost by law 0, too", Due.told(head(2, 0) + rank(1, 99, 0) + "rain 1 at 1;").flood(), 1);
        DUE.is("lost, not run over", Due.told(head(2, 1) + rank(1, 9, 0) + rank(1, 4, 0) + "rain 1 at 1;").flood(), 0);
        DUE.says("21", "NONE: none; -2: there is no DUKEDOM.");
        DUE.is("none is lost", Due.told(one).flood(), -1);
        DUE.is("none is lost by running to another one", Due.told(head(1, 1) + rank(1, 6, 0) + rank(1, 4, 0)).flood(), -1);
        DUE.is("rain of no year", Due.told(head(7, 3) + rank(1, 5, 0) + "rain 40 at 7;").flood(), -1);
        DUE.is("rain in frost", Due.told(one + "rain 40 at 7; frost at 7;").flood(), -1);
        DUE.is("no ranks", Due.told(head(16, 3) + "rain 40 at 7;").flood(), -1);
        DUE.is("no dukedom", new MoatRanks().flood(), -2);
    }

    private static void rains() {
        DUE.says("22", "RAIN of all YEARS there are (in FROST, too), together.");
        DUE.is("none", Due.told(head(16, 0)).rains(), 0);
        DUE.is("200", Due.told(head(16, 0) + "rain 40 at 15;".repeat(5)).rains(), 200);
        DUE.is("in frost, too", Due.told(head(16, 0) + "rain 40 at 15; rain 1 at 0; frost at 15;").rains(), 41);
        DUE.is("the last year there is", Due.told(head(15, 0) + "rain 3 at 14; rain 4 at 15;").rains(), 3);
        DUE.is("the only year", Due.told(head(1, 0) + "rain 3 at 0; rain 4 at 1;").rains(), 3);
        DUE.says("22", "-2 likewise.");
        DUE.is("no dukedom", new MoatRanks().rains(), -2);
    }
}

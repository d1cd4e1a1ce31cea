/** Promises 11 to 22: water year by year. */
public final class WaterTest {
    private static final Due DUE = new Due("WaterTest");

    public static void main(String[] args) {
        court();
        laws();
        stays();
        frost();
        edges();
        DUE.close();
    }

    private static void court() {
        MoatRanks x = Due.told(Texts.COURT);
        int[][] water = {{9, 10, 10, 7, 4}, {19, 20, 20, 19, 18}, {0, 5, 5, 5, 5}};
        int[][] spills = {{0, 4, 0, 0, 0}, {0, 10, 0, 0, 0}, {0, 13, 0, 0, 0}};
        int[][] drained = {{3, 3, 0, 3, 3}, {1, 1, 0, 1, 1}, {0, 0, 0, 0, 0}};
        for (int r = 0; r < 3; r++) {
            for (int y = 0; y < 5; y++) {
                DUE.is("water(" + r + ", " + y + ")", x.water(r, y), water[r][y]);
                DUE.is("spills(" + r + ", " + y + ")", x.spills(r, y), spills[r][y]);
                DUE.is("drained(" + r + ", " + y + ")", x.drained(r, y), drained[r][y]);
            }
        }
        int[] lost = {0, 13, 0, 0, 0};
        int[] all = {28, 35, 35, 31, 27};
        int[] dry = {4, 0, 0, 0, 0};
        for (int y = 0; y < 5; y++) {
            DUE.is("lost(" + y + ")", x.lost(y), lost[y]);
            DUE.is("all(" + y + ")", x.all(y), all[y]);
            DUE.is("dry(" + y + ")", x.dry(y), dry[y]);
            DUE.is("deepest(" + y + ")", x.deepest(y), 1);
        }
        int[] most = {10, 20, 5};
        int[] dries = {-1, -1, 0};
        int[] wet = {5, 5, 4};
        for (int r = 0; r < 3; r++) {
            DUE.is("most(" + r + ")", x.most(r), most[r]);
            DUE.is("dries(" + r + ")", x.dries(r), dries[r]);
            DUE.is("wet(" + r + ")", x.wet(r), wet[r]);
        }
        DUE.is("flood", x.flood(), 1);
        DUE.is("rains", x.rains(), 8);
        wrong(x);
    }

    private static void wrong(MoatRanks x) {
        int[][] pairs = {{3, 0}, {-1, 0}, {0, 5}, {0, -1}, {Integer.MAX_VALUE, 0}, {0, Integer.MIN_VALUE}};
        for (int[] p : pairs) {
            DUE.is("water of none", x.water(p[0], p[1]), -2);
            DUE.is("spills of none", x.spills(p[0], p[1]), -2);
            DUE.is("drained of none", x.drained(p[0], p[1]), -2);
        }
        for (int y : new int[] {5, -1, 16, Integer.MAX_VALUE}) {
            DUE.is("lost of none", x.lost(y), -2);
            DUE.is("all of none", x.all(y), -2);
            DUE.is("dry of none", x.dry(y), -2);
            DUE.is("deepest of none", x.deepest(y), -2);
        }
        for (int r : new int[] {3, -1, 6}) {
            DUE.is("most of none", x.most(r), -2);
            DUE.is("dries of none", x.dries(r), -2);
            DUE.is("wet of none", x.wet(r), -2);
        }
    }

    private static void laws() {
        int[][] water = {{20, 4, 18}, {5, 10, 15}, {5, 7, 15}, {5, 4, 15}};
        int[][] spills = {{0, 0, 0}, {15, 9, 12}, {15, 0, 3}, {15, 0, 3}};
        int[] lost = {0, 12, 15, 18};
        for (int law = 0; law < 4; law++) {
            MoatRanks x = Due.told(Texts.LAWS.replace("law 2", "law " + law));
            for (int r = 0; r < 3; r++) {
                DUE.is("law " + law + " water " + r, x.water(r, 0), water[law][r]);
                DUE.is("law " + law + " spills " + r, x.spills(r, 0), spills[law][r]);
            }
            DUE.is("law " + law + " lost", x.lost(0), lost[law]);
            DUE.is("law " + law + " flood", x.flood(), law == 0 ? -1 : 0);
        }
    }

    private static void stays() {
        // by law 0 there is no brim, but 99 stay at most
        MoatRanks x = Due.told("dukedom years 3 law 0 odds 0; rank wide 1 water 90 drains 1 swims 0; rain 10 at 0; rain 10 at 1; rain 1 at 2;");
        DUE.is("just 99", x.water(0, 0), 99);
        DUE.is("nothing over", x.spills(0, 0), 0);
        DUE.is("99 stay", x.water(0, 1), 99);
        DUE.is("9 over", x.spills(0, 1), 9);
        DUE.is("9 lost", x.lost(1), 9);
        DUE.is("drained", x.drained(0, 1), 1);
        DUE.is("as much as drains", x.spills(0, 2), 0);
        DUE.is("flood", x.flood(), 1);
    }

    private static void frost() {
        // neither rain nor drains in frost, but it runs over; drains take no more than there is
        MoatRanks x = Due.told("dukedom years 4 law 3 odds 0; rank wide 1 water 9 drains 2 swims 0; rain 7 at 0; frost at 0; rain 1 at 3;");
        DUE.is("over the brim in frost", x.spills(0, 0), 4);
        DUE.is("brim", x.water(0, 0), 5);
        DUE.is("nothing drains", x.drained(0, 0), 0);
        DUE.is("3", x.water(0, 1), 3);
        DUE.is("1", x.water(0, 2), 1);
        DUE.is("rain first, then drains", x.water(0, 3), 0);
        DUE.is("drains both", x.drained(0, 3), 2);
        DUE.is("rain in frost is told, too", x.rains(), 8);
        DUE.is("rain(0)", x.rain(0), 7);
        DUE.is("dries", x.dries(0), 3);
        x = Due.told("dukedom years 1 law 3 odds 0; rank wide 1 water 1 drains 20 swims 0;");
        DUE.is("no more than there is", x.drained(0, 0), 1);
        DUE.is("0 at least", x.water(0, 0), 0);
    }

    private static void edges() {
        MoatRanks x = Due.told(Texts.EMPTY);
        DUE.is("all of none", x.all(2), 0);
        DUE.is("dry of none", x.dry(0), 0);
        DUE.is("deepest of none", x.deepest(0), -1);
        DUE.is("no flood", x.flood(), -1);
        DUE.is("no rains", x.rains(), 0);
        DUE.is("lost", x.lost(0), 0);
        x = Due.told("dukedom years 2 law 3 odds 0; rank wide 1 water 0 drains 0 swims 0; rank wide 2 water 7 drains 0 swims 0;"
                + "rank wide 2 water 7 drains 0 swims 0; rain 10 at 1;");
        DUE.is("the first of the deepest", x.deepest(0), 1);
        DUE.is("dry one", x.dry(0), 1);
        DUE.is("deepest at brims", x.deepest(1), 1);
        DUE.is("lost 5 + 7 + 7", x.lost(1), 19);
        x = Due.told("dukedom years 3 law 3 odds 0; rank wide 1 water 0 drains 0 swims 0; rank wide 1 water 0 drains 0 swims 0;"
                + "rain 10 at 1; rain 5 at 2;");
        DUE.is("all dry: the first", x.deepest(0), 0);
        DUE.is("dry both", x.dry(0), 3);
        DUE.is("the first of two floods", x.flood(), 1);
        x = new MoatRanks();
        DUE.is("no flood without a dukedom", x.flood(), -2);
        DUE.is("no rains without a dukedom", x.rains(), -2);
        DUE.is("no water without a dukedom", x.water(0, 0), -2);
        DUE.is("no lost without a dukedom", x.lost(0), -2);
        DUE.is("no most without a dukedom", x.most(0), -2);
    }
}

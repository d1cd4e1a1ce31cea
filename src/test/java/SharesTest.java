/** Promises 58 to 63: worths and shares, the game of two, frosts by chance. */
public final class SharesTest {
    private static final Due DUE = new Due("SharesTest");

    public static void main(String[] args) {
        shares();
        game();
        chances();
        means();
        wrong();
        DUE.close();
    }

    private static void shares() {
        MoatRanks x = Due.told(Texts.COURT);
        int[] worth = {3, 3, 5, 5, 3, 3, 6, 6};
        for (int set = 0; set < 8; set++) {
            DUE.is("worth(" + set + ")", x.worth(set), worth[set]);
        }
        for (int set : new int[] {8, 64, -1, Integer.MIN_VALUE}) {
            DUE.is("worth(" + set + ")", x.worth(set), -2);
        }
        int[][] share = {{0, 1}, {5, 2}, {1, 2}};
        for (int r = 0; r < 3; r++) {
            DUE.is("share(" + r + ", 0)", x.share(r, 0), share[r][0]);
            DUE.is("share(" + r + ", 1)", x.share(r, 1), share[r][1]);
        }
        x.adds(4, 1);
        DUE.is("1 of 1", x.share(2, 0), 1);
        DUE.is("1 of 1", x.share(2, 1), 1);
        DUE.is("its moat is open", x.share(1, 0), 0);
        // two invites of the same two moats: halves make a whole
        x = Due.told("dukedom years 1 law 0 odds 0; rank wide 1 water 5 drains 0 swims 0; rank wide 1 water 5 drains 0 swims 0;"
                + "invite 0 1 at 0; invite 1 0 at 0; invite 1 0 at 9;");
        DUE.is("1 / 1", x.share(0, 0), 1);
        DUE.is("1 / 1", x.share(0, 1), 1);
        DUE.is("1 / 1", x.share(1, 0), 1);
    }

    private static void game() {
        MoatRanks x = Due.told(Texts.COURT);
        int[] first = {3, 5, 3, 8};
        int[] second = {6, 2, 9, 8};
        for (int pair = 0; pair < 4; pair++) {
            int own = pair & 1;
            int others = pair >> 1;
            DUE.is("gets(1, 2, " + own + ", " + others + ")", x.gets(1, 2, own, others), first[pair]);
            DUE.is("gets(2, 1, " + own + ", " + others + ")", x.gets(2, 1, own, others), second[pair]);
        }
        DUE.is("rests(1, 2): the first one fills in", x.rests(1, 2), 2);
        DUE.is("rests(2, 1): the other one does", x.rests(2, 1), 4);
        DUE.is("gets(0, 1, 1, 0): three kept, less 4 for nothing", x.gets(0, 1, 1, 0), 5);
        // two who come to one another twice if both fill in: neither, or both
        x = Due.told("dukedom years 1 law 0 odds 0; rank wide 1 water 5 drains 0 swims 0; rank wide 1 water 5 drains 0 swims 0;"
                + "rank wide 1 water 0 drains 0 swims 0; invite 0 1 at 0; invite 1 0 at 0;");
        DUE.is("gets(0, 1, 1, 0)", x.gets(0, 1, 1, 0), -4);
        DUE.is("gets(0, 1, 1, 1)", x.gets(0, 1, 1, 1), 2);
        DUE.is("gets(0, 1, 0, 1)", x.gets(0, 1, 0, 1), 0);
        DUE.is("neither or both", x.rests(0, 1), 9);
        DUE.is("neither", x.rests(0, 2), 1);
    }

    private static void fraction(String what, long above, long below, long dueAbove, long dueBelow) {
        DUE.is(what + ", above", above, dueAbove);
        DUE.is(what + ", below", below, dueBelow);
    }

    private static void chances() {
        MoatRanks x = Due.told(Texts.COURT);
        fraction("by frost alone", x.chance(0, 1, 0, 0), x.chance(0, 1, 0, 1), 3, 10);
        fraction("in frost as without", x.chance(0, 2, 0, 0), x.chance(0, 2, 0, 1), 1, 1);
        fraction("told frost is none", x.chance(0, 1, 2, 0), x.chance(0, 1, 2, 1), 3, 10);
        // no rain in moat 2 if there was frost in year 1, else frost in year 3 is needed
        fraction("frost in year 3 or in year 1", x.chance(0, 2, 3, 0), x.chance(0, 2, 3, 1), 51, 100);
        DUE.is("frosts as told", x.frosts(), 4);
        x = Due.told(Texts.COURT.replace("odds 3", "odds 0"));
        fraction("never", x.chance(0, 1, 4, 0), x.chance(0, 1, 4, 1), 0, 1);
        x = Due.told(Texts.COURT.replace("odds 3", "odds 10"));
        fraction("always", x.chance(0, 1, 4, 0), x.chance(0, 1, 4, 1), 1, 1);
        x = Due.told(Texts.COURT.replace("odds 3", "odds 5").replace("years 5", "years 16"));
        fraction("half", x.chance(0, 1, 7, 0), x.chance(0, 1, 7, 1), 1, 2);
        DUE.is("year 8", x.chance(0, 1, 8, 0), -2);
    }

    private static void means() {
        MoatRanks x = Due.told(Texts.COURT);
        fraction("10 or 9", x.mean(0, 0, 0), x.mean(0, 0, 1), 93, 10);
        fraction("2 by frost in both years, 0, or 5", x.mean(2, 1, 0), x.mean(2, 1, 1), 92, 25);
        fraction("0 or 2", x.mean(2, 0, 0), x.mean(2, 0, 1), 3, 5);
        x = Due.told("dukedom years 16 law 0 odds 1; rank wide 1 water 99 drains 0 swims 0; rank wide 1 water 8 drains 1 swims 0;"
                + "rank wide 1 water 0 drains 0 swims 0;");
        fraction("99 always", x.mean(0, 7, 0), x.mean(0, 7, 1), 99, 1);
        fraction("8 less 0.9 a year", x.mean(1, 7, 0), x.mean(1, 7, 1), 4, 5);
        fraction("0 always", x.mean(2, 7, 0), x.mean(2, 7, 1), 0, 1);
        DUE.is("year 8", x.mean(0, 8, 0), -2);
    }

    private static void wrong() {
        MoatRanks x = Due.told(Texts.COURT);
        for (int[] a : new int[][] {{3, 0}, {-1, 0}, {0, 2}, {0, -1}}) {
            DUE.is("share of none", x.share(a[0], a[1]), -2);
        }
        for (int[] a : new int[][] {{3, 0}, {0, 3}, {-1, 0}, {0, -1}, {2, 2}}) {
            DUE.is("rests of none", x.rests(a[0], a[1]), -2);
            DUE.is("gets of none", x.gets(a[0], a[1], 0, 0), -1000);
            DUE.is("chance of none", x.chance(a[0], a[1], 0, 0), -2);
        }
        for (int[] a : new int[][] {{2, 0}, {0, 2}, {-1, 0}, {0, -1}}) {
            DUE.is("gets by no such choices", x.gets(0, 1, a[0], a[1]), -1000);
        }
        for (int[] a : new int[][] {{5, 0}, {-1, 0}, {0, 2}, {0, -1}}) {
            DUE.is("chance of none", x.chance(0, 1, a[0], a[1]), -2);
            DUE.is("mean of none", x.mean(0, a[0], a[1]), -2);
        }
        DUE.is("mean of none", x.mean(3, 0, 0), -2);
        DUE.is("mean of none", x.mean(-1, 0, 0), -2);
        x = Due.told(Texts.EMPTY);
        DUE.is("worth of nobody", x.worth(0), 0);
        DUE.is("worth of none such", x.worth(1), -2);
        x = new MoatRanks();
        DUE.is("worth without a dukedom", x.worth(0), -2);
        DUE.is("share without a dukedom", x.share(0, 0), -2);
        DUE.is("rests without a dukedom", x.rests(0, 1), -2);
        DUE.is("gets without a dukedom", x.gets(0, 1, 0, 0), -1000);
        DUE.is("chance without a dukedom", x.chance(0, 1, 0, 0), -2);
        DUE.is("mean without a dukedom", x.mean(0, 0, 0), -2);
    }
}

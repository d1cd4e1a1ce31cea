/** Promises 35 to 51: which invites are kept, and what would be by other planks, moats, drains, swimming, laws. */
public final class InvitesTest {
    private static final Due DUE = new Due("InvitesTest");

    public static void main(String[] args) {
        court();
        wouldBe();
        laid();
        drains();
        laws();
        wrong();
        edges();
        DUE.close();
    }

    private static void court() {
        MoatRanks x = Due.told(Texts.COURT);
        int[] kept = {1, 0, 0, 1, 0, 0, 1};
        int[] hinders = {0, 2, 6, 0, 0, 2, 0};
        for (int i = 0; i < 7; i++) {
            DUE.is("kept(" + i + ")", x.kept(i), kept[i]);
            DUE.is("hinders(" + i + ")", x.hinders(i), hinders[i]);
        }
        DUE.is("keeps", x.keeps(), 1 + 8 + 64);
        int[] hosts = {3, 0, 0};
        int[] goes = {0, 1, 2};
        for (int r = 0; r < 3; r++) {
            DUE.is("hosts(" + r + ")", x.hosts(r), hosts[r]);
            DUE.is("goes(" + r + ")", x.goes(r), goes[r]);
        }
        DUE.is("host", x.host(), 0);
        DUE.is("plank 0 is needed, plank 1 is not", x.idle(), 2);
    }

    private static void wouldBe() {
        MoatRanks x = Due.told(Texts.COURT);
        DUE.is("best", x.best(), 3);
        DUE.is("ways: 4 with plank 0 on 0, 3 with plank 1 alone there", x.ways(), 7);
        DUE.is("lay(0)", x.lay(0), -1);
        DUE.is("lay(1)", x.lay(1), 0);
        DUE.is("told as it was", x.plank(0, 1), 0);
        DUE.is("fills", x.fills(), 2);
        DUE.is("filled", x.filled(), 6);
        DUE.is("path", x.path(), 1);
        DUE.is("learns(0)", x.learns(0), 19);
        DUE.is("learns(1)", x.learns(1), 20);
        DUE.is("learns(2)", x.learns(2), 20);
        DUE.is("nothing was done", x.keeps(), 73);
        x.adds(4, 1);
        DUE.is("planks of acts stay: best", x.best(), 6);
        DUE.is("planks of acts stay: ways, on 0 and 2 or 2 and 0", x.ways(), 2);
        DUE.is("the first row", x.lay(0), 0);
        DUE.is("the first row", x.lay(1), 2);
        DUE.is("fills besides", x.filled(), 4);
        DUE.is("path: rank 2 for invite 2", x.path(), 2);
        DUE.is("learns(0) over open moats", x.learns(0), 0);
        DUE.is("learns(1): 5 of moat 2", x.learns(1), 5);
        DUE.is("learns(2): 5 of its own", x.learns(2), 5);
        x.adds(2, 0);
        DUE.is("told planks as they lie matter no more", x.idle(), 3);
        DUE.is("rows with one on 2", x.ways(), 7);
        DUE.is("the least row", x.lay(0), -1);
        DUE.is("the least row", x.lay(1), 2);
        x.adds(1, 2);
        DUE.is("all rows do", x.ways(), 16);
        DUE.is("none first", x.lay(1), -1);
        DUE.is("all of years there are", x.keeps(), 127 - 16);
        DUE.is("no more to fill", x.fills(), 0);
        DUE.is("none to fill", x.filled(), 0);
        DUE.is("no path", x.path(), -1);
    }

    /** Three of no swimming with moats of 1, 2, 3; planks 3, 1: all three would need one more plank. */
    private static void laid() {
        MoatRanks x = Due.told("dukedom years 1 law 0 odds 0; rank wide 1 water 5 drains 0 swims 0; rank wide 2 water 5 drains 0 swims 0;"
                + "rank wide 3 water 5 drains 0 swims 0; plank 3 on 0; plank 1 on 0; invite 0 1 at 0; invite 1 0 at 0; invite 0 2 at 0;");
        DUE.is("none as they lie", x.keeps(), 0);
        DUE.is("best", x.best(), 2);
        DUE.is("plank 0 on 1", x.lay(0), 1);
        DUE.is("plank 1 on 0", x.lay(1), 0);
        DUE.is("one way", x.ways(), 1);
        DUE.is("both are idle", x.idle(), 3);
        DUE.is("fills besides moat 0", x.filled(), 6);
        DUE.is("the first path of most", x.path(), 1);
        DUE.is("worth of 1", x.worth(2), 2);
        DUE.is("worth of 2", x.worth(4), 1);
        DUE.is("host: none", x.host(), -1);
        x = Due.told("dukedom years 1 law 0 odds 0; rank wide 1 water 5 drains 0 swims 5; rank wide 1 water 9 drains 0 swims 9;"
                + "rank wide 1 water 9 drains 0 swims 9; invite 1 2 at 0; invite 2 1 at 0; invite 1 0 at 0; invite 1 2 at 0;");
        DUE.is("the host of most", x.host(), 2);
        DUE.is("without planks: best", x.best(), 4);
        DUE.is("without planks: one row", x.ways(), 1);
        DUE.is("without planks: none", x.lay(0), -2);
        DUE.is("without planks: none is idle", x.idle(), 0);
        x = Due.told("dukedom years 1 law 0 odds 0; rank wide 1 water 0 drains 0 swims 0; rank wide 1 water 0 drains 0 swims 9;"
                + "invite 1 0 at 0; invite 0 1 at 0;");
        DUE.is("the first of two hosts", x.host(), 0);
    }

    private static void drains() {
        MoatRanks x = Due.told(Texts.COURT);
        DUE.is("drain(0): nothing may run over in year 0", x.drain(0), 2);
        DUE.is("drain(1): 4 left in year 0", x.drain(1), 16);
        DUE.is("drain(2): 0 in year 1, but moat 1 hinders", x.drain(2), 0);
        DUE.is("told as it was", x.rank(1, 2), 1);
        x.dredge(1, 0);
        DUE.is("moat 1 dredged: 8 - 1 and 4 from moat 0 in year 1", x.water(1, 1), 11);
        DUE.is("it need not drain then", x.drain(1), 0);
        x = Due.told("dukedom years 2 law 0 odds 0; rank wide 1 water 40 drains 20 swims 0; rank wide 1 water 0 drains 0 swims 0; invite 0 1 at 1;");
        DUE.is("20 a year", x.drain(0), 20);
        DUE.is("kept", x.kept(0), 1);
        DUE.is("nothing to drain", x.drain(1), 0);
    }

    private static void laws() {
        MoatRanks x = Due.told(Texts.LAWS);
        int[] by = {0, 2, 2, 2};
        for (int law = 0; law < 4; law++) {
            DUE.is("by(" + law + ")", x.by(law), by[law]);
        }
        DUE.is("the least of several", x.law(), 1);
        DUE.is("told as it was", x.count(1), 2);
        x = Due.told(Texts.LAWS + "invite 1 0 at 0; invite 0 1 at 0;");
        int[] more = {0, 2, 2, 4};
        for (int law = 0; law < 4; law++) {
            DUE.is("by(" + law + ") of four", x.by(law), more[law]);
        }
        DUE.is("the best law", x.law(), 3);
        DUE.is("water as it was", x.water(1, 0), 7);
        DUE.is("by(4)", x.by(4), -2);
        DUE.is("by(-1)", x.by(-1), -2);
    }

    private static void wrong() {
        MoatRanks x = Due.told(Texts.COURT);
        for (int n : new int[] {7, 8, -1, Integer.MAX_VALUE}) {
            DUE.is("kept of none", x.kept(n), -2);
            DUE.is("hinders of none", x.hinders(n), -2);
            DUE.is("lay of none", x.lay(n), -2);
        }
        DUE.is("lay(2)", x.lay(2), -2);
        for (int n : new int[] {3, 6, -1, Integer.MIN_VALUE}) {
            DUE.is("hosts of none", x.hosts(n), -2);
            DUE.is("goes of none", x.goes(n), -2);
            DUE.is("drain of none", x.drain(n), -2);
            DUE.is("learns of none", x.learns(n), -2);
        }
        x = new MoatRanks();
        long[] all = {
            x.keeps(), x.host(), x.idle(), x.best(), x.ways(), x.fills(), x.filled(), x.path(), x.law(), x.by(0), x.kept(0),
            x.hinders(0), x.lay(0), x.hosts(0), x.goes(0), x.drain(0), x.learns(0)
        };
        for (int i = 0; i < all.length; i++) {
            DUE.is("without a dukedom " + i, all[i], -2);
        }
    }

    private static void edges() {
        MoatRanks x = Due.told(Texts.EMPTY);
        long[] all = {x.keeps(), x.idle(), x.best(), x.fills(), x.filled(), x.law(), x.by(3)};
        for (int i = 0; i < all.length; i++) {
            DUE.is("without ranks " + i, all[i], 0);
        }
        DUE.is("ways without ranks", x.ways(), 1);
        DUE.is("host without ranks", x.host(), -1);
        DUE.is("path without ranks", x.path(), -1);
        x = Due.told("dukedom years 16 law 0 odds 0; rank wide 1 water 99 drains 0 swims 0; rank wide 1 water 99 drains 0 swims 30;"
                + "invite 0 1 at 15; invite 1 0 at 15;");
        DUE.is("to swim 99", x.learns(0), 99);
        DUE.is("to swim 99", x.learns(1), 99);
        DUE.is("nothing helps", x.drain(0), 0);
        DUE.is("both moats", x.hinders(0), 3);
    }
}

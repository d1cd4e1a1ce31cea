/** Term V and promises 35 to 51: each boundary that the document names, from both sides. */
public final class InviteBoundsTest {
    private static final Due DUE = new Due("InviteBoundsTest");
    private static final Refused NONE_SUCH = new Refused(DUE, -2);
    private static final String HEAD = "dukedom years 16 law 0 odds 0;";
    /** Six who come over no moat without a plank of 9. */
    private static final String SIX = HEAD + rank(9, 99, 0).repeat(6);
    private static final String RING = "invite 0 1 at 0; invite 1 2 at 0; invite 2 3 at 0; invite 3 4 at 0; invite 4 0 at 0;";

    public static void main(String[] args) {
        kept();
        hinders();
        hosts();
        idle();
        laid();
        fills();
        path();
        drain();
        learns();
        laws();
        refused();
        DUE.close();
    }

    private static String rank(int wide, int water, int swims) {
        return rank(wide, water, 0, swims);
    }

    private static String rank(int wide, int water, int drains, int swims) {
        return "rank wide " + wide + " water " + water + " drains " + drains + " swims " + swims + ";";
    }

    private static void kept() {
        DUE.says("III", "INVITE: kept, if the first one COMES to the other one in its YEAR.");
        DUE.says("35", "1 if an INVITE is kept (one of no YEAR there is not), else 0.");
        for (int years = 1; years <= 16; years++) {
            MoatRanks x = Due.told("dukedom years " + years + " law 0 odds 0;" + rank(1, 0, 0) + rank(1, 0, 0) + "invite 0 1 at " + (years - 1)
                    + "; invite 1 0 at " + Math.min(15, years) + "; invite 0 1 at 0;");
            DUE.is("in the last year of " + years, x.kept(0), 1);
            DUE.is("in the year behind", x.kept(1), years == 16 ? 1 : 0);
            DUE.is("in the first year", x.kept(2), 1);
            DUE.is("as bits", x.keeps(), years == 16 ? 7 : 5);
            DUE.is("nothing hinders where there is no year", x.hinders(1), 0);
        }
        MoatRanks x = Due.told("dukedom years 5 law 0 odds 0;" + rank(1, 0, 0) + rank(1, 0, 0) + "frost at 5; invite 0 1 at 5;");
        DUE.is("frost of no year", x.kept(0), 0);
        x = Due.told(SIX + "frost at 15; invite 0 5 at 15; invite 0 5 at 14;");
        DUE.is("in frost", x.kept(0), 1);
        DUE.is("ahead of frost", x.kept(1), 0);
        x = Due.told(HEAD + rank(1, 7, 7) + rank(1, 7, 6) + "invite 0 1 at 0; invite 1 0 at 0;");
        DUE.is("just so deep", x.kept(0), 1);
        DUE.is("one deeper", x.kept(1), 0);
        DUE.says("36", "INVITES that are kept, as bits.");
        DUE.is("all of eight", Due.told(HEAD + rank(1, 0, 0).repeat(2) + "invite 0 1 at 15;".repeat(8)).keeps(), 255);
        DUE.is("the last of eight", Due.told(SIX + "frost at 15;" + "invite 0 1 at 14;".repeat(7) + "invite 0 1 at 15;").keeps(), 128);
        DUE.is("none of eight", Due.told(SIX + "invite 0 1 at 15;".repeat(8)).keeps(), 0);
        DUE.is("none of none", Due.told(SIX).keeps(), 0);
        DUE.says("36", "-2: there is no DUKEDOM.");
        DUE.is("no dukedom", new MoatRanks().keeps(), -2);
    }

    private static void hinders() {
        DUE.says("37", "Moats (RANKS, as bits) that hinder an INVITE in its YEAR (0: it is kept, or of no YEAR there is).");
        String invites = "invite 0 5 at 15; invite 5 0 at 0;";
        MoatRanks x = Due.told(SIX + invites);
        DUE.is("both", x.hinders(0), 33);
        DUE.is("both", x.hinders(1), 33);
        x = Due.told(SIX + "plank 9 on 0;" + invites);
        DUE.is("the other one's", x.hinders(0), 32);
        DUE.is("its own", x.hinders(1), 32);
        x = Due.told(SIX + "plank 9 on 0; plank 8 on 5;" + invites);
        DUE.is("a plank one too short", x.hinders(0), 32);
        x = Due.told(SIX + "plank 9 on 0; plank 9 on 5;" + invites);
        DUE.is("kept", x.hinders(0), 0);
        x = Due.told(SIX + "frost at 15;" + invites);
        DUE.is("kept in frost", x.hinders(0), 0);
        DUE.is("not in this year", x.hinders(1), 33);
        x = Due.told(SIX.replace("years 16", "years 15") + invites);
        DUE.is("of no year there is", x.hinders(0), 0);
        x = Due.told(HEAD + rank(1, 30, 30) + rank(1, 31, 30) + "invite 0 1 at 0; invite 1 0 at 0;");
        DUE.is("one deeper than 30 is the other one's", x.hinders(0), 2);
        DUE.is("one deeper than 30 is its own", x.hinders(1), 2);
    }

    private static void hosts() {
        MoatRanks x = Due.told(HEAD + rank(1, 0, 0).repeat(6) + "invite 0 5 at 15;".repeat(8));
        DUE.says("38", "How many INVITES to a RANK are kept.");
        int[] hosts = {0, 0, 0, 0, 0, 8};
        DUE.says("39", "How many of its own (it is to come) are.");
        int[] goes = {8, 0, 0, 0, 0, 0};
        for (int rank = 0; rank < 6; rank++) {
            DUE.is("hosts(" + rank + ")", x.hosts(rank), hosts[rank]);
            DUE.is("goes(" + rank + ")", x.goes(rank), goes[rank]);
        }
        DUE.says("40", "The RANK whose hosts() is greatest, the first of several, if above 0.");
        DUE.is("the last one", x.host(), 5);
        DUE.is("the first of two", Due.told(HEAD + rank(1, 0, 0).repeat(6) + "invite 0 5 at 0; invite 0 4 at 0;").host(), 4);
        DUE.is("the first one", Due.told(HEAD + rank(1, 0, 0).repeat(6) + "invite 5 0 at 0; invite 0 4 at 0; invite 4 0 at 0;").host(), 0);
        DUE.is("by one", Due.told(HEAD + rank(1, 0, 0).repeat(6) + "invite 0 5 at 0; invite 0 4 at 0; invite 1 5 at 0;").host(), 5);
        DUE.is("of those kept alone", Due.told(HEAD + rank(1, 0, 0) + rank(1, 1, 0) + rank(1, 0, 0)
                + "invite 0 1 at 0; invite 2 1 at 0; invite 0 2 at 0;").host(), 2);
        DUE.says("40", "NONE: none; -2: there is no DUKEDOM.");
        DUE.is("none is kept", Due.told(SIX + "invite 0 5 at 0;").host(), -1);
        DUE.is("none is told", Due.told(HEAD + rank(1, 0, 0).repeat(2)).host(), -1);
        DUE.is("of no year", Due.told("dukedom years 1 law 0 odds 0;" + rank(1, 0, 0).repeat(2) + "invite 0 1 at 1;").host(), -1);
        DUE.is("no ranks", Due.told(HEAD).host(), -1);
        DUE.is("no dukedom", new MoatRanks().host(), -2);
    }

    private static void idle() {
        DUE.says("41", "PLANKS told without each of which alone just as many INVITES are kept, as bits.");
        String invite = "invite 0 1 at 0;";
        DUE.is("both are needed", Due.told(SIX + "plank 9 on 0; plank 9 on 1;" + invite).idle(), 0);
        DUE.is("each alone of two", Due.told(SIX + "plank 9 on 0; plank 9 on 1; plank 9 on 0;" + invite).idle(), 5);
        DUE.is("too short", Due.told(SIX + "plank 9 on 0; plank 9 on 1; plank 8 on 0;" + invite).idle(), 4);
        DUE.is("nothing is kept in either case", Due.told(SIX + "plank 9 on 0;" + invite).idle(), 1);
        DUE.is("five", Due.told(SIX + "plank 9 on 5;".repeat(5) + invite).idle(), 31);
        DUE.is("the last of five is needed", Due.told(SIX + "plank 9 on 0;".repeat(4) + "plank 9 on 1;" + invite).idle(), 15);
        DUE.is("no planks", Due.told(SIX + invite).idle(), 0);
        MoatRanks x = Due.told(SIX + "plank 9 on 0; plank 9 on 1;" + invite);
        x.adds(9, 0);
        DUE.is("an act's plank lies there, too", x.idle(), 1);
        x.undo();
        DUE.is("not any more", x.idle(), 0);
        DUE.says("41", "-2: there is no DUKEDOM.");
        DUE.is("no dukedom", new MoatRanks().idle(), -2);
        DUE.is("no ranks", Due.told(HEAD).idle(), 0);
    }

    private static void row(String what, MoatRanks x, int best, int ways, int... lay) {
        DUE.is(what + ": best", x.best(), best);
        DUE.is(what + ": ways", x.ways(), ways);
        for (int plank = 0; plank < lay.length; plank++) {
            DUE.is(what + ": lay(" + plank + ")", x.lay(plank), lay[plank]);
        }
        DUE.is(what + ": no more planks", x.lay(lay.length), -2);
    }

    private static void laid() {
        DUE.says("V", "LAID: a row for the PLANKS told: for each a RANK, or none, in place of where it lies (those of acts stay).");
        DUE.says("42", "LAID (V): the most INVITES kept by any row.");
        DUE.says("43", "The RANK of a PLANK by the first such (the least row, none first).");
        DUE.says("44", "How many rows do.");
        String five = "plank 9 on 5;".repeat(5);
        row("nothing to be kept", Due.told(SIX + five), 0, 16807, -1, -1, -1, -1, -1);
        row("of no year there is", Due.told(SIX.replace("16", "15") + five + "invite 0 1 at 15;"), 0, 16807, -1, -1, -1, -1, -1);
        row("kept without planks", Due.told(SIX + five + "frost at 0;" + RING), 5, 16807, -1, -1, -1, -1, -1);
        row("each plank on another moat", Due.told(SIX + five + RING), 5, 120, 0, 1, 2, 3, 4);
        row("one on each of two", Due.told(SIX + "plank 9 on 0;".repeat(5) + "invite 4 5 at 0;"), 1,
                16807 - 2 * 7776 + 3125, -1, -1, -1, 4, 5);
        String stairs = HEAD + rank(1, 99, 0) + rank(2, 99, 0) + rank(3, 99, 0) + rank(4, 99, 0) + rank(5, 99, 0);
        row("each has its place", Due.told(stairs + "plank 1 on 0; plank 2 on 0; plank 3 on 0; plank 4 on 0; plank 5 on 0;" + RING), 5, 1,
                0, 1, 2, 3, 4);
        row("each has its place", Due.told(stairs + "plank 5 on 0; plank 4 on 0; plank 3 on 0; plank 2 on 0; plank 1 on 0;" + RING), 5, 1,
                4, 3, 2, 1, 0);
        // Four open moats of the ring keep three. Without moat 0, 1, 2, 3 or 4 there are 1, 1, 2, 4, 8 rows; with plank 0 on
        // moat 0 the planks 4, 3, 2 long must go to moats 4, 3, 2 wide.
        row("one short", Due.told(stairs + "plank 5 on 0; plank 4 on 0; plank 3 on 0; plank 2 on 0;" + RING), 3, 16, 0, 3, 2, 1);
        row("none ahead of the first", Due.told(SIX + "plank 9 on 0; plank 9 on 0;" + "plank 9 on 1;" + "invite 0 1 at 0;"), 1,
                343 - 2 * 216 + 125, -1, 0, 1);
        row("no planks", Due.told(HEAD + rank(1, 0, 0).repeat(2) + "invite 0 1 at 0;"), 1, 1);
        row("no ranks", Due.told(HEAD), 0, 1);
        row("one rank", Due.told(HEAD + rank(1, 99, 0) + "plank 9 on 0;".repeat(5)), 0, 32, -1, -1, -1, -1, -1);
        DUE.is("lay asked first of all", Due.told(SIX + five + RING).lay(4), 4);
        DUE.is("ways asked first of all", Due.told(SIX + five + RING).ways(), 120);
        DUE.says("V", "in place of where it lies (those of acts stay).");
        MoatRanks x = Due.told(SIX + "plank 9 on 0;" + "invite 0 1 at 0;");
        row("one plank is too few", x, 0, 7, -1);
        x.adds(9, 1);
        row("an act's plank stays", x, 1, 1, 0);
        x.adds(9, 0);
        DUE.is("lay asked first behind an act", x.lay(0), -1);
        x.undo();
        DUE.is("lay asked first behind one taken back", x.lay(0), 0);
        x.adds(9, 0);
        DUE.is("ways asked first behind an act", x.ways(), 7);
        row("both do", x, 1, 7, -1);
        DUE.is("planks of acts are not laid", x.lay(1), -2);
        DUE.says("42", "-2: there is no DUKEDOM.");
        DUE.is("best", new MoatRanks().best(), -2);
        DUE.says("44", "-2: there is no DUKEDOM.");
        DUE.is("ways", new MoatRanks().ways(), -2);
        DUE.says("43", "NONE: none; -2: there is none such.");
        NONE_SUCH.one("lay", 0, 4, Due.told(SIX + five)::lay);
        NONE_SUCH.one("lay of one", 0, 0, x::lay);
        DUE.is("lay of none", Due.told(SIX).lay(0), -2);
        DUE.is("lay without a dukedom", new MoatRanks().lay(0), -2);
    }

    private static void fills() {
        DUE.says("45", "FILL: the fewest moats to be filled in besides so that all INVITES of YEARS there are are kept.");
        DUE.says("46", "Which, as bits: the least set of so few.");
        fill("all", Due.told(SIX + RING + "invite 4 5 at 15;"), 6, 63);
        fill("the first and the last", Due.told(SIX + "invite 5 0 at 15;"), 2, 33);
        fill("its own alone", Due.told(HEAD + rank(1, 0, 0).repeat(5) + rank(1, 1, 0) + "invite 5 0 at 15;"), 1, 32);
        fill("none is told", Due.told(SIX), 0, 0);
        fill("all are kept", Due.told(SIX + RING + "frost at 0;"), 0, 0);
        fill("of no year there is", Due.told(SIX.replace("years 16", "years 15") + "invite 5 0 at 15; invite 1 0 at 14;"), 2, 3);
        fill("besides planks", Due.told(SIX + "plank 9 on 5; plank 8 on 0;" + "invite 5 0 at 15;"), 1, 1);
        fill("no ranks", Due.told(HEAD), 0, 0);
        MoatRanks x = Due.told(SIX + "invite 5 0 at 15;");
        x.adds(9, 0);
        fill("besides an act's plank", x, 1, 32);
        x.dredge(5, 14);
        fill("and one dredged", x, 0, 0);
        DUE.is("nothing was filled in", Due.told(SIX + "invite 5 0 at 15;").keeps(), 0);
        DUE.says("45", "-2: there is no DUKEDOM.");
        DUE.is("fills", new MoatRanks().fills(), -2);
        DUE.says("46", "-2 likewise.");
        DUE.is("filled", new MoatRanks().filled(), -2);
    }

    private static void fill(String what, MoatRanks x, int fills, int filled) {
        DUE.is(what + ": fills", x.fills(), fills);
        DUE.is(what + ": filled", x.filled(), filled);
    }

    private static void path() {
        DUE.says("47", "The RANK whose moat, filled in besides, brings most INVITES kept, if more than now, the first of several.");
        String dry = HEAD + rank(1, 0, 0);
        DUE.is("the last one", Due.told(dry + rank(1, 0, 0).repeat(4) + rank(1, 1, 0) + "invite 0 5 at 15;").path(), 5);
        DUE.is("the first of two", Due.told(dry + rank(1, 1, 0).repeat(2) + "invite 0 2 at 0; invite 0 1 at 0;").path(), 1);
        DUE.is("by one", Due.told(dry + rank(1, 1, 0).repeat(2) + "invite 0 2 at 0; invite 0 1 at 0; invite 2 0 at 0;").path(), 2);
        DUE.is("more than now", Due.told(dry + rank(1, 0, 0) + rank(1, 1, 0) + "invite 0 1 at 0; invite 1 0 at 0; invite 0 2 at 0;").path(), 2);
        DUE.is("the first rank", Due.told(HEAD + rank(1, 1, 0) + rank(1, 0, 0) + "invite 1 0 at 0;").path(), 0);
        DUE.says("47", "NONE: none; -2 likewise.");
        DUE.is("two hinder", Due.told(SIX + "invite 0 5 at 15;").path(), -1);
        DUE.is("all are kept", Due.told(SIX + "frost at 15; invite 0 5 at 15;").path(), -1);
        DUE.is("of no year there is", Due.told("dukedom years 1 law 0 odds 0;" + rank(1, 0, 0) + rank(1, 1, 0) + "invite 0 1 at 1;").path(), -1);
        DUE.is("none is told", Due.told(SIX).path(), -1);
        DUE.is("no ranks", Due.told(HEAD).path(), -1);
        DUE.is("no dukedom", new MoatRanks().path(), -2);
    }

    private static void drain() {
        DUE.says("48", "The least drains (0 .. 20) of a RANK, in place of its own, by which most INVITES are kept.");
        int[] water = {0, 1, 19, 20, 21, 99};
        int[] due = {0, 1, 19, 20, 0, 0};
        for (int i = 0; i < water.length; i++) {
            for (int own : new int[] {0, 20}) {
                MoatRanks x = Due.told(HEAD + rank(1, water[i], own, 0) + rank(1, 0, 0) + "invite 0 1 at 0;");
                DUE.is(water[i] + " in a year", x.drain(0), due[i]);
                DUE.is("of the dry one", x.drain(1), 0);
                DUE.is("its own stays", x.rank(0, 2), own);
                DUE.is("what is kept stays", x.kept(0), water[i] <= own ? 1 : 0);
            }
        }
        MoatRanks x = Due.told(HEAD + rank(1, 99, 0, 0) + rank(1, 0, 0) + "invite 0 1 at 15;");
        DUE.is("7 a year: 99 in 15", x.drain(0), 7);
        // one more invite is kept by 20 a year in year 4 than by any less
        x = Due.told(HEAD + rank(1, 99, 0, 0) + rank(1, 0, 0) + "invite 0 1 at 15; invite 0 1 at 4; invite 0 1 at 3;");
        DUE.is("most, though not all", x.drain(0), 20);
        x = Due.told(HEAD + rank(1, 99, 0, 0).repeat(6) + "invite 0 5 at 4; frost at 15;");
        DUE.is("two hinder: 0", x.drain(5), 0);
        DUE.is("none is told: 0", Due.told(SIX).drain(5), 0);
        // by law 1 the brims of others matter, too: nothing may run over to moat 1
        x = Due.told("dukedom years 1 law 1 odds 0;" + rank(1, 8, 0, 9) + rank(9, 0, 0) + rank(1, 0, 0) + "invite 1 2 at 0;");
        DUE.is("3 of 8 run over", x.water(1, 0), 3);
        DUE.is("drains 3", x.drain(0), 3);
        DUE.is("or its own 3", x.drain(1), 0);
    }

    private static void learns() {
        DUE.says("49", "The least that a RANK must swim (0 .. 99), in place of its own, so that all INVITES of its own of YEARS there are are kept.");
        int[] water = {0, 1, 30, 31, 98, 99};
        for (int w : water) {
            MoatRanks x = Due.told(HEAD + rank(1, w, 30) + rank(1, 0, 0) + "invite 0 1 at 15; invite 1 0 at 0;");
            DUE.is("its own moat", x.learns(0), w);
            DUE.is("another one's", x.learns(1), w);
            DUE.is("its own swimming stays", x.rank(0, 3), 30);
        }
        MoatRanks x = Due.told(HEAD.replace("16", "5") + rank(1, 40, 0) + rank(1, 50, 0) + rank(1, 60, 0)
                + "frost at 4; invite 0 1 at 0; invite 0 2 at 4; invite 1 2 at 5; invite 2 0 at 3; invite 2 1 at 15;");
        DUE.is("the deepest of both, frost aside", x.learns(0), 50);
        DUE.is("of no year there is: 0", x.learns(1), 0);
        DUE.is("of years there are alone", x.learns(2), 60);
        x.adds(1, 2);
        DUE.is("a plank lies on its own", x.learns(2), 40);
        x.adds(1, 0);
        DUE.is("planks lie on both", x.learns(2), 0);
        DUE.is("none of its own", Due.told(SIX + "invite 0 5 at 0;").learns(5), 0);
        DUE.is("both of 99", Due.told(SIX + "invite 0 5 at 15;").learns(0), 99);
    }

    private static void laws() {
        String dry = rank(9, 0, 0);
        DUE.says("50", "How many INVITES are kept by a LAW (0 .. 3) in place of the one told.");
        for (int law = 0; law < 4; law++) {
            String head = "dukedom years 1 law " + law + " odds 0;";
            // by law 0 rank 0 has 9, else 5; rank 1 has 4 of it by law 1; a rank 3 is as rank 0 from the other side
            MoatRanks x = Due.told(head + rank(1, 9, 5) + dry + dry + "invite 1 2 at 0; invite 0 1 at 0; invite 0 2 at 0;");
            kept(x, law, new int[] {1, 2, 3, 3});
            DUE.says("51", "The LAW by which most are, the least of several.");
            DUE.is("law 2", x.law(), 2);
            x = Due.told(head + rank(1, 9, 5) + dry + dry + rank(1, 9, 5) + "invite 1 2 at 0; invite 2 1 at 0; invite 0 1 at 0; invite 3 2 at 0;");
            kept(x, law, new int[] {2, 2, 2, 4});
            DUE.is("law 3", x.law(), 3);
            x = Due.told(head + rank(1, 9, 5) + dry + dry + rank(1, 9, 5) + "invite 0 1 at 0; invite 3 2 at 0;");
            kept(x, law, new int[] {0, 2, 2, 2});
            DUE.is("law 1", x.law(), 1);
            x = Due.told(head + rank(1, 5, 5) + dry + "invite 0 1 at 0;".repeat(8));
            kept(x, law, new int[] {8, 8, 8, 8});
            DUE.is("law 0", x.law(), 0);
            DUE.is("none is told: law 0", Due.told(head).law(), 0);
        }
        DUE.says("50", "-2: there is none such, no DUKEDOM.");
        NONE_SUCH.one("by", 0, 3, Due.told(SIX)::by);
        NONE_SUCH.one("by without a dukedom", 1, 0, new MoatRanks()::by);
        DUE.is("by(3) without a dukedom", new MoatRanks().by(3), -2);
        DUE.says("51", "-2: there is no DUKEDOM.");
        DUE.is("law", new MoatRanks().law(), -2);
    }

    private static void kept(MoatRanks x, int told, int[] due) {
        for (int law = 0; law < 4; law++) {
            DUE.is("by(" + law + ") told as " + told, x.by(law), due[law]);
        }
        DUE.is("by the law told", Integer.bitCount(x.keeps()), due[told]);
        DUE.is("the law stays", x.count(1), told);
    }

    private static void refused() {
        MoatRanks x = Due.told(SIX + "invite 0 1 at 0;".repeat(8));
        DUE.says("35", "-2: there is none such.");
        NONE_SUCH.one("kept", 0, 7, x::kept);
        DUE.says("37", "-2: there is none such.");
        NONE_SUCH.one("hinders", 0, 7, x::hinders);
        DUE.says("38", "-2: there is none such.");
        NONE_SUCH.one("hosts", 0, 5, x::hosts);
        DUE.says("39", "-2 likewise.");
        NONE_SUCH.one("goes", 0, 5, x::goes);
        DUE.says("48", "-2: there is none such.");
        NONE_SUCH.one("drain", 0, 5, x::drain);
        DUE.says("49", "-2 likewise.");
        NONE_SUCH.one("learns", 0, 5, x::learns);
        x = Due.told(HEAD + rank(1, 0, 0));
        NONE_SUCH.one("kept of none", 1, 0, x::kept);
        NONE_SUCH.one("hinders of none", 1, 0, x::hinders);
        NONE_SUCH.one("hosts of one", 0, 0, x::hosts);
        NONE_SUCH.one("goes of one", 0, 0, x::goes);
        NONE_SUCH.one("drain of one", 0, 0, x::drain);
        NONE_SUCH.one("learns of one", 0, 0, x::learns);
    }
}

/** Promises 64 to 73: acts, years drawn, digging, images. */
public final class ActsTest {
    private static final Due DUE = new Due("ActsTest");

    public static void main(String[] args) {
        acts();
        thirty();
        wrong();
        draws();
        digging();
        images();
        DUE.close();
    }

    private static void acts() {
        MoatRanks x = Due.told(Texts.COURT);
        DUE.is("too short: rank 1 alone swims", x.adds(3, 1), 2);
        DUE.is("nothing more is kept", x.keeps(), 73);
        DUE.is("long enough: all", x.adds(4, 1), 7);
        DUE.is("1 and 5 are kept", x.keeps(), 73 + 2 + 32);
        DUE.is("planks told alone", x.count(4), 2);
        DUE.is("acts", x.count(8), 2);
        DUE.is("dredged in year 0, full in year 4", x.dredge(2, 0), 5);
        DUE.is("dredged in year 1: none came since", x.dredge(2, 1), 0);
        DUE.is("what ran over was lost all the same", x.lost(1), 13);
        DUE.is("spills", x.spills(2, 1), 13);
        DUE.is("no water", x.water(2, 1), 0);
        DUE.is("2 is kept", x.keeps(), 107 + 4);
        DUE.is("wet never", x.wet(2), 0);
        DUE.is("dredged in frost, too", x.dredge(1, 2), 0);
        DUE.is("water in frost", x.water(1, 2), 0);
        DUE.is("acts", x.count(8), 5);
        DUE.is("undo", x.undo(), 4);
        DUE.is("not dredged", x.water(1, 2), 20);
        DUE.is("undo", x.undo(), 3);
        DUE.is("not dredged", x.water(2, 1), 5);
        DUE.is("keeps", x.keeps(), 107);
        DUE.is("anew", x.anew(), 3);
        DUE.is("keeps as told", x.keeps(), 73);
        DUE.is("none is left", x.undo(), -5);
        DUE.is("anew of none", x.anew(), 0);
        // dredging ahead of rain: brims take more
        DUE.is("moat 0 dredged in year 0", x.dredge(0, 0), 0);
        DUE.is("8 - 3", x.water(0, 1), 5);
        DUE.is("26 - 20", x.spills(1, 1), 6);
        DUE.is("8 + 6 - 5", x.lost(1), 9);
    }

    private static void thirty() {
        MoatRanks x = Due.told(Texts.COURT);
        for (int i = 0; i < 15; i++) {
            DUE.is("adds " + i, x.adds(1, 1), 2);
            DUE.is("dredge " + i, x.dredge(0, 4), 0);
        }
        DUE.is("acts", x.count(8), 30);
        DUE.is("a 31st", x.adds(4, 1), -5);
        DUE.is("a 31st", x.dredge(0, 0), -5);
        DUE.is("none such first", x.adds(10, 1), -2);
        DUE.is("none such first", x.dredge(0, 5), -2);
        DUE.is("nothing happened", x.keeps(), 73);
        DUE.is("acts", x.count(8), 30);
        DUE.is("undo", x.undo(), 29);
        DUE.is("room again", x.adds(4, 1), 7);
        DUE.is("keeps", x.keeps(), 107);
        DUE.is("full again", x.adds(4, 1), -5);
        DUE.is("all", x.anew(), 30);
    }

    private static void wrong() {
        MoatRanks x = Due.told(Texts.COURT);
        for (int[] a : new int[][] {{0, 0}, {10, 0}, {-1, 0}, {1, 3}, {1, -1}}) {
            DUE.is("adds of none", x.adds(a[0], a[1]), -2);
        }
        for (int[] a : new int[][] {{3, 0}, {-1, 0}, {0, 5}, {0, -1}}) {
            DUE.is("dredge of none", x.dredge(a[0], a[1]), -2);
        }
        for (int[] a : new int[][] {{3, 1}, {-1, 1}, {0, 0}, {0, 10}, {0, -1}}) {
            DUE.is("digs of none", x.digs(a[0], a[1]), -2);
        }
        DUE.is("no acts", x.count(8), 0);
        for (int[] a : new int[][] {{-1, 0}, {2000000001, 0}, {0, 2}, {0, -1}}) {
            DUE.is("drawn of none", x.drawn(a[0], a[1]), -2);
        }
        for (int[] a : new int[][] {{-1, 1, 0}, {2000000001, 1, 0}, {0, 0, 0}, {0, 21, 0}, {0, 1, 7}, {0, 1, -1}}) {
            DUE.is("luck of none", x.luck(a[0], a[1], a[2]), -2);
        }
        for (int k : new int[] {-1, 3}) {
            DUE.is("image of none", x.image(k), -2);
            DUE.is("back to none", x.back(k), -2);
        }
        x = new MoatRanks();
        long[] all = {x.adds(1, 0), x.dredge(0, 0), x.undo(), x.anew(), x.drawn(0, 0), x.drawn(0, 1), x.luck(0, 1, 0), x.digs(0, 1)};
        for (int i = 0; i < all.length; i++) {
            DUE.is("without a dukedom " + i, all[i], -2);
        }
        x = Due.told(Texts.EMPTY);
        DUE.is("drawn without ranks", x.drawn(5, 1), 0);
        DUE.is("undo without acts", x.undo(), -5);
    }

    private static void draws() {
        MoatRanks x = Due.told(Texts.COURT);
        // draws of seed 0: 0 8 8 7 8, of 7: 4 6 8 4 1, of 2,000,000,003: 1 1 9 3 0
        DUE.is("frosts of seed 0", x.drawn(0, 0), 1);
        DUE.is("kept by seed 0: all of year 0", x.drawn(0, 1), 1 + 2 + 64);
        DUE.is("frosts of seed 7", x.drawn(7, 0), 16);
        DUE.is("kept by seed 7: told frost is none", x.drawn(7, 1), 1 + 64);
        DUE.is("the greatest seed: 4 3 1 7 6", x.drawn(2000000000, 0), 4);
        DUE.is("kept by it", x.drawn(2000000000, 1), 73);
        DUE.is("frosts as told", x.frosts(), 4);
        DUE.is("keeps as told", x.keeps(), 73);
        DUE.is("luck of one", x.luck(0, 1, 1), 1);
        DUE.is("luck of none", x.luck(1, 1, 1), 0);
        DUE.is("first draws below 3 of seeds 0 .. 19: of 0 9 11 12 13 14", x.luck(0, 20, 1), 6);
        DUE.is("of 2,000,000,000 and 19 more: 9", x.luck(2000000000, 20, 1), 9);
        DUE.is("an invite of no year", x.luck(0, 20, 4), 0);
        x = Due.told(Texts.COURT.replace("odds 3", "odds 0"));
        DUE.is("odds 0", x.drawn(0, 0), 0);
        x = Due.told(Texts.COURT.replace("odds 3", "odds 10").replace("years 5", "years 16"));
        DUE.is("odds 10", x.drawn(0, 0), 65535);
        DUE.is("all are kept", x.drawn(0, 1), 127);
        DUE.is("all are", x.luck(5, 20, 4), 20);
        x = Due.told(Texts.COURT.replace("odds 3", "odds 8").replace("years 5", "years 16"));
        // seed 0: 0 8 8 7 8 7 5 1 2 0 1 2 9 8 7 5
        DUE.is("below odds alone", x.drawn(0, 0), 0b1100111111101001);
    }

    private static void digging() {
        MoatRanks x = Due.told(Texts.COURT);
        DUE.is("it was 2", x.digs(0, 3), 2);
        DUE.is("plank 0 is too short now", x.over(2, 0, 0), 0);
        DUE.is("14 are below the brim", x.water(0, 1), 14);
        DUE.is("wide", x.rank(0, 0), 3);
        DUE.is("it was 3", x.digs(0, 1), 3);
        DUE.is("9 - 5 run over", x.spills(0, 0), 4);
        DUE.is("brim", x.water(0, 0), 5);
        x.adds(1, 2);
        DUE.is("acts that are not taken back", x.digs(0, 2), -5);
        DUE.is("none such first", x.digs(0, 10), -2);
        DUE.is("wide stays", x.digs(3, 1), -2);
        x.undo();
        DUE.is("it was 1", x.digs(0, 2), 1);
        DUE.is("as told again", x.keeps(), 73);
        DUE.is("the widest", x.digs(1, 9), 4);
        DUE.is("it was 9", x.digs(1, 9), 9);
    }

    private static void images() {
        MoatRanks x = new MoatRanks();
        for (int k = 0; k < 3; k++) {
            DUE.is("nothing yet", x.back(k), -6);
        }
        DUE.is("no dukedom is kept, too", x.image(2), 0);
        Due.feedText(x, Texts.COURT);
        x.dukedom();
        x.digs(2, 7);
        x.adds(4, 1);
        x.dredge(0, 0);
        DUE.is("image 0", x.image(0), 0);
        DUE.is("2 is not there yet", x.back(1), -6);
        x.dredge(0, 1);
        x.undo();
        x.undo();
        x.undo();
        x.digs(2, 1);
        DUE.is("image 1", x.image(1), 0);
        DUE.is("back to 0", x.back(0), 0);
        DUE.is("acts", x.count(8), 2);
        DUE.is("wide as dug", x.rank(2, 0), 7);
        DUE.is("dredged", x.water(0, 0), 0);
        DUE.is("undo", x.undo(), 1);
        DUE.is("not dredged", x.water(0, 0), 9);
        DUE.is("plank", x.over(0, 1, 0), 1);
        x.anew();
        x.digs(0, 9);
        DUE.is("an image stays as it was", x.back(0), 0);
        DUE.is("wide", x.rank(0, 0), 2);
        DUE.is("acts", x.count(8), 2);
        DUE.is("back to 1", x.back(1), 0);
        DUE.is("keeps as told", x.keeps(), 73);
        Due.feedText(x, Texts.EMPTY);
        x.dukedom();
        Due.feedText(x, "dukedom ;");
        DUE.is("a fault", x.dukedom(), -4);
        x.row(3, 0, 3);
        DUE.is("back to 1", x.back(1), 0);
        DUE.is("lines", x.count(9), 18);
        DUE.is("rain", x.rain(1), 8);
        DUE.is("keeps as told", x.keeps(), 73);
        DUE.is("the tape is not of it", x.count(10), 9);
        DUE.is("slots are not of it", x.count(11), 1);
        DUE.is("the fault is not of it", x.fault(0), 1);
        DUE.is("back to 2", x.back(2), 0);
        DUE.is("no dukedom", x.keeps(), -2);
        DUE.is("no lines", x.count(9), 0);
        DUE.is("no years", x.count(0), 0);
        x.back(1);
        DUE.is("image in place of another", x.image(2), 0);
        x.back(0);
        x.back(2);
        DUE.is("no acts", x.count(8), 0);
    }
}

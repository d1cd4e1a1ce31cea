/** Promises 23 to 34: who comes over which moat and to whom, and how news goes. */
public final class VisitsTest {
    private static final Due DUE = new Due("VisitsTest");

    public static void main(String[] args) {
        court();
        wrong();
        chain();
        edges();
        DUE.close();
    }

    private static void court() {
        MoatRanks x = Due.told(Texts.COURT);
        int[][] fords = {{5, 7, 5}, {1, 5, 1}, {7, 7, 7}, {1, 7, 1}, {1, 7, 1}};
        int[][] comes = {{4, 5, 1}, {0, 0, 0}, {6, 5, 3}, {0, 5, 0}, {0, 5, 0}};
        int[][] guests = {{6, 0, 3}, {0, 0, 0}, {6, 5, 3}, {2, 0, 2}, {2, 0, 2}};
        int[] friends = {1, 0, 3, 0, 0};
        int[] shut = {0, 6, 0, 4, 4};
        for (int y = 0; y < 5; y++) {
            for (int r = 0; r < 3; r++) {
                DUE.is("fords(" + r + ", " + y + ")", x.fords(r, y), fords[y][r]);
                DUE.is("comes(" + r + ", " + y + ")", x.comes(r, y), comes[y][r]);
                DUE.is("guests(" + r + ", " + y + ")", x.guests(r, y), guests[y][r]);
                for (int o = 0; o < 3; o++) {
                    DUE.is("over(" + r + ", " + o + ", " + y + ")", x.over(r, o, y), fords[y][r] >> o & 1);
                }
            }
            DUE.is("friends(" + y + ")", x.friends(y), friends[y]);
            DUE.is("shut(" + y + ")", x.shut(y), shut[y]);
        }
        DUE.is("fair", x.fair(), 2);
        DUE.is("lone", x.lone(), 0);
        DUE.is("first(0, 1)", x.first(0, 1), 2);
        DUE.is("first(0, 2)", x.first(0, 2), 0);
        DUE.is("first(2, 1)", x.first(2, 1), 2);
        DUE.is("often(1, 0)", x.often(1, 0), 4);
        DUE.is("often(0, 1)", x.often(0, 1), 1);
        DUE.is("often(0, 2)", x.often(0, 2), 2);
        DUE.is("news(1, 0, 0)", x.news(1, 0, 0), 1);
        DUE.is("news(0, 1, 0)", x.news(0, 1, 0), -1);
        DUE.is("news to oneself", x.news(0, 0, 1), 0);
        DUE.is("news(1, 0, 1)", x.news(1, 0, 1), -1);
        DUE.is("widest(0)", x.widest(0), 1);
        DUE.is("widest(1)", x.widest(1), 0);
        DUE.is("widest(2)", x.widest(2), 1);
    }

    private static void wrong() {
        MoatRanks x = Due.told(Texts.COURT);
        for (int[] a : new int[][] {{3, 0, 0}, {0, 3, 0}, {0, 1, 5}, {-1, 0, 0}, {0, -1, 0}, {0, 1, -1}}) {
            DUE.is("over of none", x.over(a[0], a[1], a[2]), -2);
            DUE.is("news of none", x.news(a[0], a[1], a[2]), -2);
        }
        for (int[] a : new int[][] {{3, 0}, {-1, 0}, {0, 5}, {0, -1}}) {
            DUE.is("comes of none", x.comes(a[0], a[1]), -2);
            DUE.is("guests of none", x.guests(a[0], a[1]), -2);
            DUE.is("fords of none", x.fords(a[0], a[1]), -2);
        }
        for (int[] a : new int[][] {{3, 0}, {0, 3}, {-1, 0}, {0, -1}, {1, 1}}) {
            DUE.is("first of none", x.first(a[0], a[1]), -2);
            DUE.is("often of none", x.often(a[0], a[1]), -2);
        }
        for (int y : new int[] {5, -1}) {
            DUE.is("friends of none", x.friends(y), -2);
            DUE.is("shut of none", x.shut(y), -2);
            DUE.is("widest of none", x.widest(y), -2);
        }
        x = new MoatRanks();
        DUE.is("lone without a dukedom", x.lone(), -2);
        DUE.is("fair without a dukedom", x.fair(), -2);
        DUE.is("friends without a dukedom", x.friends(0), -2);
    }

    /**
     * Water 1 2 3 4 and swims 2 3 4 4, each over its own moat: 0 comes to 1; 1 to 0, 2; 2 and 3 to all. News of 0 is
     * at 3 in three visits.
     */
    private static void chain() {
        MoatRanks x = Due.told("dukedom years 1 law 0 odds 0; rank wide 9 water 1 drains 0 swims 2; rank wide 9 water 2 drains 0 swims 3;"
                + "rank wide 9 water 3 drains 0 swims 4; rank wide 9 water 4 drains 0 swims 4;");
        DUE.is("comes(0, 0)", x.comes(0, 0), 2);
        DUE.is("comes(1, 0)", x.comes(1, 0), 5);
        DUE.is("comes(2, 0)", x.comes(2, 0), 11);
        DUE.is("comes(3, 0)", x.comes(3, 0), 7);
        DUE.is("news(0, 1, 0)", x.news(0, 1, 0), 1);
        DUE.is("news(0, 2, 0)", x.news(0, 2, 0), 2);
        DUE.is("news(0, 3, 0)", x.news(0, 3, 0), 3);
        DUE.is("news(3, 0, 0)", x.news(3, 0, 0), 1);
        DUE.is("widest", x.widest(0), 3);
        DUE.is("friends: 0 1, 1 2, 2 3", x.friends(0), 3);
    }

    private static void edges() {
        MoatRanks x = Due.told(Texts.EMPTY);
        DUE.is("lone of none", x.lone(), 0);
        DUE.is("fair of none", x.fair(), 0);
        DUE.is("friends of none", x.friends(2), 0);
        DUE.is("shut of none", x.shut(2), 0);
        DUE.is("widest of none", x.widest(2), 0);
        x = Due.told("dukedom years 2 law 0 odds 0; rank wide 1 water 5 drains 0 swims 4; frost at 1;");
        DUE.is("nobody comes to one alone", x.lone(), 1);
        DUE.is("too deep", x.over(0, 0, 0), 0);
        DUE.is("frost", x.over(0, 0, 1), 1);
        DUE.is("never to itself", x.comes(0, 1), 0);
        x = Due.told("dukedom years 2 law 0 odds 0; rank wide 3 water 9 drains 0 swims 0; rank wide 1 water 0 drains 0 swims 0;"
                + "rank wide 1 water 0 drains 0 swims 0; plank 2 on 0; plank 2 on 0; plank 9 on 1;");
        DUE.is("two short planks are none", x.over(1, 0, 0), 0);
        DUE.is("lone behind water", x.lone(), 1);
        DUE.is("the first of two fairs", x.fair(), 0);
        x = Due.told("dukedom years 2 law 0 odds 0; rank wide 3 water 9 drains 0 swims 0; plank 3 on 0;");
        DUE.is("no shorter than wide", x.over(0, 0, 0), 1);
        DUE.is("not shut", x.shut(0), 0);
    }
}

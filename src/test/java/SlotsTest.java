/** Promises 74 to 76: slots. A rank's water in year 0 by law 0 without drains tells what a row has. */
public final class SlotsTest {
    private static final Due DUE = new Due("SlotsTest");
    private static final String PLAIN = "dukedom years 9 law 0 odds 0; rank wide 1 water 0 drains 0 swims 0;";

    public static void main(String[] args) {
        rows();
        writes();
        pastes();
        overlaps();
        DUE.close();
    }

    private static void rows() {
        MoatRanks x = Due.told(PLAIN);
        DUE.is("no rows", x.count(11), 0);
        for (int[] a : new int[][] {{4, 0, 0}, {-1, 0, 0}, {0, 4, 0}, {0, -1, 0}, {0, 0, 61}, {0, 0, Integer.MAX_VALUE}, {4, 0, -1}, {0, 4, -1}}) {
            DUE.is("row of none", x.row(a[0], a[1], a[2]), -2);
        }
        DUE.is("below 0", x.row(0, 0, -1), -3);
        DUE.is("below 0", x.row(3, 3, Integer.MIN_VALUE), -3);
        DUE.is("no rows", x.count(11), 0);
        DUE.is("60", x.row(0, 0, 60), 0);
        DUE.is("none", x.row(3, 3, 0), 0);
        DUE.is("a row of none is one", x.count(11), 2);
        DUE.is("all 0", x.waters(0, 0), 1);
        DUE.is("all 0", x.greatest(0, 0), 0);
        x.write(0, 2, 5);
        DUE.is("5 and 0 in year 0", x.waters(0, 0), 0);
        DUE.is("the slot stays", x.row(0, 0, -1), -3);
        DUE.is("the slot stays", x.row(0, 0, 61), -2);
        DUE.is("the slot stays", x.write(0, 59, 0), 0);
        DUE.is("in place of another", x.row(0, 2, 3), 0);
        DUE.is("all 0", x.greatest(0, 0), 0);
        DUE.is("shorter", x.write(0, 3, 0), -7);
        DUE.is("two rows", x.count(11), 2);
        x.row(1, 1, 1);
        x.row(2, 1, 1);
        DUE.is("four rows", x.count(11), 4);
    }

    private static void writes() {
        MoatRanks x = Due.told(PLAIN);
        DUE.is("nothing there", x.write(0, 0, 0), -6);
        DUE.is("nothing there first", x.write(0, -1, 0), -6);
        DUE.is("no such slot", x.write(4, 0, 0), -2);
        DUE.is("no such slot", x.write(-1, 0, 0), -2);
        x.row(0, 0, 3);
        x.row(1, 0, 0);
        DUE.is("no such number", x.write(0, 3, 0), -7);
        DUE.is("no such number", x.write(0, -1, 0), -7);
        DUE.is("no such number", x.write(1, 0, 0), -7);
        long[] past = {1L << 8, 1L << 16, 1L << 32, 1L << 62};
        for (int width = 0; width < 4; width++) {
            x.row(0, width, 3);
            DUE.is("write", x.write(0, 2, past[width] + 41), 0);
            DUE.is("cut to width " + width, x.greatest(0, 0), width < 3 ? 41 : -2);
            x.write(0, 2, -past[width] + 41);
            DUE.is("below 0 cut to width " + width, x.greatest(0, 0), width < 3 ? 41 : -2);
            x.write(0, 2, (past[width] >> 1) + 41);
            DUE.is("not to less than width " + width, x.greatest(0, 0), -2);
            x.write(0, 2, 99);
            DUE.is("as it is", x.greatest(0, 0), 99);
            x.write(0, 2, -1);
            DUE.is("below 0", x.greatest(0, 0), -2);
        }
    }

    private static void pastes() {
        MoatRanks x = Due.told(PLAIN);
        DUE.is("no such slot", x.paste(4, 0, 0, 0, 0), -2);
        DUE.is("no such slot", x.paste(0, 0, -1, 0, 0), -2);
        DUE.is("both have nothing", x.paste(0, 0, 1, 0, 0), -6);
        x.row(0, 0, 6);
        DUE.is("one has nothing", x.paste(0, 0, 1, 0, 0), -6);
        DUE.is("one has nothing", x.paste(1, 0, 0, 0, 0), -6);
        x.row(1, 1, 6);
        DUE.is("not of one width", x.paste(0, 0, 1, 0, 0), -8);
        DUE.is("width first", x.paste(0, -1, 1, 0, 99), -8);
        x.row(1, 0, 3);
        x.write(0, 3, 0);
        x.write(0, 4, 7);
        x.write(0, 5, 33);
        for (int[] a : new int[][] {{-1, 0, 1}, {0, -1, 1}, {0, 0, -1}, {4, 0, 3}, {3, 1, 3}, {0, 0, 4}, {7, 0, 0}, {0, 4, 0},
                {Integer.MAX_VALUE, 0, 1}, {0, Integer.MAX_VALUE, Integer.MAX_VALUE}, {0, 0, Integer.MIN_VALUE}}) {
            DUE.is("beyond", x.paste(0, a[0], 1, a[1], a[2]), -7);
        }
        DUE.is("nothing happened", x.greatest(1, 0), 0);
        DUE.is("three", x.paste(0, 3, 1, 0, 3), 0);
        DUE.is("33 is seen in year 7", x.greatest(1, 0), 33);
        DUE.is("none at the ends", x.paste(0, 6, 1, 3, 0), 0);
        DUE.is("one", x.paste(1, 2, 0, 2, 1), 0);
        DUE.is("33 twice", x.greatest(0, 0), 33);
        x.write(0, 5, 34);
        DUE.is("copied, not shared", x.greatest(1, 0), 33);
        DUE.is("33 and 34", x.waters(0, 0), 0);
    }

    private static void overlaps() {
        MoatRanks x = Due.told(PLAIN);
        x.row(0, 2, 6);
        int[] numbers = {0, 1, 20, 0, 2, 20};
        for (int i = 0; i < 6; i++) {
            x.write(0, i, numbers[i]);
        }
        DUE.is("20", x.greatest(0, 0), 20);
        // 0 1 20 0 1 20 only if each is put as it was
        DUE.is("forth onto itself", x.paste(0, 0, 0, 3, 3), 0);
        DUE.is("20", x.greatest(0, 0), 20);
        x.row(0, 2, 7);
        int[] more = {0, 0, 3, 20, 0, 4, 20};
        for (int i = 0; i < 7; i++) {
            x.write(0, i, more[i]);
        }
        x.paste(0, 1, 0, 0, 6);
        x.row(1, 2, 6);
        x.paste(0, 0, 1, 0, 6);
        DUE.is("back by one as they were", x.greatest(1, 0), 20);
        x.paste(0, 0, 0, 1, 6);
        x.paste(0, 1, 1, 0, 6);
        DUE.is("forth by one as they were", x.greatest(1, 0), 20);
    }
}

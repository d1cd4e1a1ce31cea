/**
 * What the text block says of SLOTS and promises 74 to 76: each boundary that the document names, from both sides. A
 * number is read by pasting it behind a RANK and a YEAR: where water stays as told, greatest() is that number (0 .. 99).
 */
public final class SlotBoundsTest {
    private static final Due DUE = new Due("SlotBoundsTest");
    private static final String PLAIN = "dukedom years 16 law 0 odds 0; rank wide 9 water 0 drains 0 swims 0;";
    private static final int[] FAR = {Integer.MIN_VALUE, Integer.MIN_VALUE + 1, -256, -2, 64, 256, 65536, Integer.MAX_VALUE - 1, Integer.MAX_VALUE};

    public static void main(String[] args) {
        rows();
        rowsRefused();
        writes();
        cut();
        writesRefused();
        pastes();
        overlaps();
        pastesRefused();
        DUE.close();
    }

    /** A number of a slot 0 .. 2, by slot 3; -2 if it is not 0 .. 99. */
    private static int read(MoatRanks x, int slot, int width, int i) {
        x.row(3, width, 3);
        return x.paste(slot, i, 3, 2, 1) == 0 ? x.greatest(3, 0) : -1000;
    }

    private static void rows() {
        DUE.says("TEXT", "SLOTS 0 .. 3 have rows of numbers of 1, 2, 4 or 8 bytes (WIDTH 0 .. 3), at most 60, or nothing.");
        DUE.says("74", "A SLOT (0 .. 3) has a row of n numbers of a WIDTH, all 0 (in place of another one): 0.");
        for (int slot = 0; slot < 4; slot++) {
            for (int width = 0; width < 4; width++) {
                for (int n : new int[] {0, 1, 3, 59, 60}) {
                    MoatRanks x = Due.told(PLAIN);
                    DUE.is("row(" + slot + ", " + width + ", " + n + ")", x.row(slot, width, n), 0);
                    DUE.is("one row", x.count(11), 1);
                    DUE.is("its last number", x.write(slot, n - 1, 0), n == 0 ? -7 : 0);
                    DUE.is("no more", x.write(slot, n, 0), -7);
                    for (int other = 0; other < 4; other++) {
                        DUE.is("another one has nothing", x.write(other, 0, 0), other != slot ? -6 : n == 0 ? -7 : 0);
                    }
                }
            }
        }
        MoatRanks x = Due.told(PLAIN);
        x.row(0, 0, 60);
        for (int i = 0; i < 60; i++) {
            x.write(0, i, 40 + i);
        }
        DUE.is("a number", read(x, 0, 0, 59), 99);
        DUE.is("in place of another one", x.row(0, 0, 60), 0);
        for (int i = 0; i < 60; i++) {
            DUE.is("all 0", read(x, 0, 0, i), 0);
        }
        x = Due.told(PLAIN);
        x.row(0, 0, 60);
        x.write(0, 59, 7);
        x.row(0, 0, 1);
        DUE.is("shorter", x.write(0, 1, 0), -7);
        x.row(0, 3, 60);
        DUE.is("longer: all 0", read(x, 0, 3, 59), 0);
        DUE.is("a row of none in place of another one", x.row(0, 0, 0), 0);
        DUE.is("no numbers", x.write(0, 0, 0), -7);
        DUE.is("but rows, with slot 3", x.count(11), 2);
    }

    private static void rowsRefused() {
        DUE.says("74", "-2: there is no such SLOT or WIDTH (0 .. 3), or n is above 60;");
        MoatRanks x = Due.told(PLAIN);
        for (int bad : new int[] {-1, 4, 5, Integer.MIN_VALUE, Integer.MAX_VALUE}) {
            for (int n : new int[] {0, 60, 61, -1}) {
                DUE.is("row(" + bad + ", 0, " + n + ")", x.row(bad, 0, n), -2);
                DUE.is("row(0, " + bad + ", " + n + ")", x.row(0, bad, n), -2);
                DUE.is("row(" + bad + ", " + bad + ", " + n + ")", x.row(bad, bad, n), -2);
            }
        }
        for (int n : new int[] {61, 62, 64, 65536, Integer.MAX_VALUE}) {
            DUE.is("row(0, 0, " + n + ")", x.row(0, 0, n), -2);
            DUE.is("row(3, 3, " + n + ")", x.row(3, 3, n), -2);
        }
        DUE.says("74", "-3, and the SLOT stays: n is below 0.");
        for (int n : new int[] {-1, -2, -60, -61, -256, Integer.MIN_VALUE}) {
            DUE.is("row(0, 0, " + n + ")", x.row(0, 0, n), -3);
            DUE.is("row(3, 3, " + n + ")", x.row(3, 3, n), -3);
        }
        DUE.is("no rows", x.count(11), 0);
        DUE.is("nothing", x.write(0, 0, 0), -6);
        x.row(0, 1, 2);
        x.write(0, 1, 55);
        DUE.is("below 0", x.row(0, 3, -1), -3);
        DUE.is("above 60", x.row(0, 3, 61), -2);
        DUE.is("no such width", x.row(0, 4, 1), -2);
        DUE.is("the slot stays", read(x, 0, 1, 1), 55);
        DUE.is("as long", x.write(0, 2, 0), -7);
    }

    private static void writes() {
        DUE.says("75", "Number i of the SLOT's row is v, cut to its WIDTH: 0.");
        for (int slot = 0; slot < 3; slot++) {
            for (int width = 0; width < 4; width++) {
                MoatRanks x = Due.told(PLAIN);
                x.row(slot, width, 60);
                DUE.is("the first", x.write(slot, 0, 1), 0);
                DUE.is("the last", x.write(slot, 59, 99), 0);
                DUE.is("the first is 1", read(x, slot, width, 0), 1);
                DUE.is("the next is 0", read(x, slot, width, 1), 0);
                DUE.is("the last but one is 0", read(x, slot, width, 58), 0);
                DUE.is("the last is 99", read(x, slot, width, 59), 99);
                x.write(slot, 59, 0);
                DUE.is("the last is 0", read(x, slot, width, 59), 0);
            }
        }
    }

    private static void cut() {
        DUE.says("75", "cut to its WIDTH");
        for (int width = 0; width < 4; width++) {
            int bits = 8 << width;
            MoatRanks x = Due.told(PLAIN);
            x.row(0, width, 1);
            long half = 1L << bits - 1;
            is(x, width, 0, 0);
            is(x, width, 99, 99);
            is(x, width, 100, -2);
            is(x, width, -1, -2);
            is(x, width, half, -2);
            is(x, width, half - 1, -2);
            is(x, width, half + 99, -2);
            is(x, width, -half, -2);
            is(x, width, -half + 99, -2);
            is(x, width, Long.MIN_VALUE, width < 3 ? 0 : -2);
            is(x, width, Long.MIN_VALUE + 98, width < 3 ? 98 : -2);
            is(x, width, Long.MAX_VALUE, -2);
            if (width < 3) {
                is(x, width, 2 * half, 0);
                is(x, width, 2 * half + 99, 99);
                is(x, width, 2 * half + 100, -2);
                is(x, width, 2 * half - 1, -2);
                is(x, width, -2 * half, 0);
                is(x, width, -2 * half + 99, 99);
                is(x, width, -2 * half - 1, -2);
                is(x, width, 6 * half + 42, 42);
            }
            for (int other = 0; other < 3; other++) {
                is(x, width, (1L << (8 << other)) + 17, other >= width ? 17 : -2);
            }
        }
        MoatRanks x = Due.told(PLAIN);
        x.row(0, 0, 3);
        x.write(0, 1, 0x123456789abcdefL);
        DUE.is("the number ahead stays", read(x, 0, 0, 0), 0);
        DUE.is("the number behind stays", read(x, 0, 0, 2), 0);
    }

    private static void is(MoatRanks x, int width, long v, int due) {
        DUE.is("write " + v, x.write(0, 0, v), 0);
        DUE.is(v + " by width " + width, read(x, 0, width, 0), due);
    }

    private static void writesRefused() {
        MoatRanks x = Due.told(PLAIN);
        DUE.says("75", "-2: there is no such SLOT; -6: it has nothing; -7: there is no such number.");
        for (int bad : new int[] {-1, 4, 5, Integer.MIN_VALUE, Integer.MAX_VALUE}) {
            DUE.is("write(" + bad + ", 0, 0)", x.write(bad, 0, 0), -2);
            DUE.is("write(" + bad + ", -1, 0)", x.write(bad, -1, 0), -2);
        }
        for (int slot = 0; slot < 4; slot++) {
            DUE.is("nothing", x.write(slot, 0, 0), -6);
            DUE.is("nothing, no such number", x.write(slot, -1, 0), -6);
            DUE.is("nothing, no such number", x.write(slot, 60, 0), -6);
        }
        for (int n : new int[] {0, 1, 59, 60}) {
            x.row(0, 0, n);
            DUE.is("-1 of " + n, x.write(0, -1, 5), -7);
            DUE.is("number " + n + " of " + n, x.write(0, n, 5), -7);
            for (int far : FAR) {
                DUE.is("number " + far + " of " + n, x.write(0, far, 5), -7);
            }
            for (int i = 0; i < n; i += 29) {
                DUE.is("none was written", read(x, 0, 0, i), 0);
            }
        }
    }

    private static MoatRanks twoRows(int width) {
        MoatRanks x = Due.told(PLAIN);
        x.row(0, width, 60);
        x.row(1, width, 5);
        for (int i = 0; i < 60; i++) {
            x.write(0, i, i + 10);
        }
        for (int i = 0; i < 5; i++) {
            x.write(1, i, i + 1);
        }
        return x;
    }

    private static void has(String what, MoatRanks x, int slot, int width, int... due) {
        for (int i = 0; i < due.length; i++) {
            DUE.is(what + ": number " + i, read(x, slot, width, i), due[i]);
        }
    }

    private static void pastes() {
        DUE.says("76", "So many numbers of a SLOT's row, from one on, are put to another one's (or its own), from one on, as they were: 0.");
        for (int width = 0; width < 4; width++) {
            MoatRanks x = twoRows(width);
            DUE.is("all of a row", x.paste(0, 55, 1, 0, 5), 0);
            has("the last five", x, 1, width, 65, 66, 67, 68, 69);
            DUE.is("one to the end", x.paste(0, 0, 1, 4, 1), 0);
            has("the last one", x, 1, width, 65, 66, 67, 68, 10);
            DUE.is("one to the start", x.paste(0, 59, 1, 0, 1), 0);
            has("the first one", x, 1, width, 69, 66, 67, 68, 10);
            DUE.is("none at the start", x.paste(0, 0, 1, 0, 0), 0);
            DUE.is("none at the ends", x.paste(0, 60, 1, 5, 0), 0);
            has("as it was", x, 1, width, 69, 66, 67, 68, 10);
            DUE.is("all to a longer one", x.paste(1, 0, 0, 55, 5), 0);
            DUE.is("the last one", read(x, 0, width, 59), 10);
            DUE.is("the one ahead of them", read(x, 0, width, 54), 64);
            DUE.is("the first of them", read(x, 0, width, 55), 69);
            x.write(1, 0, 3);
            DUE.is("each has its own", read(x, 0, width, 55), 69);
            x.row(2, width, 0);
            DUE.is("none of none", x.paste(2, 0, 2, 0, 0), 0);
            DUE.is("none of none to another one", x.paste(2, 0, 1, 5, 0), 0);
        }
        MoatRanks x = twoRows(0);
        x.row(2, 0, 60);
        DUE.is("sixty", x.paste(0, 0, 2, 0, 60), 0);
        DUE.is("the first", read(x, 2, 0, 0), 10);
        DUE.is("the last", read(x, 2, 0, 59), 69);
    }

    private static void overlaps() {
        DUE.says("76", "(or its own), from one on, as they were");
        MoatRanks x = twoRows(2);
        DUE.is("onto itself", x.paste(1, 0, 1, 0, 5), 0);
        has("as it was", x, 1, 2, 1, 2, 3, 4, 5);
        DUE.is("forth by one", x.paste(1, 0, 1, 1, 4), 0);
        has("forth", x, 1, 2, 1, 1, 2, 3, 4);
        DUE.is("back by one", x.paste(1, 1, 1, 0, 4), 0);
        has("back", x, 1, 2, 1, 2, 3, 4, 4);
        DUE.is("forth by two", x.paste(1, 0, 1, 2, 3), 0);
        has("forth", x, 1, 2, 1, 2, 1, 2, 3);
        DUE.is("back by two", x.paste(1, 2, 1, 0, 3), 0);
        has("back", x, 1, 2, 1, 2, 3, 2, 3);
    }

    private static void pastesRefused() {
        DUE.says("76", "-2: there is no such SLOT; -6: one has nothing; -8: they are not of one WIDTH;");
        MoatRanks x = Due.told(PLAIN);
        for (int bad : new int[] {-1, 4, 5, Integer.MIN_VALUE, Integer.MAX_VALUE}) {
            DUE.is("from " + bad, x.paste(bad, 0, 0, 0, 0), -2);
            DUE.is("to " + bad, x.paste(0, 0, bad, 0, 0), -2);
            DUE.is("both", x.paste(bad, -1, bad, -1, -1), -2);
        }
        for (int slot = 0; slot < 4; slot++) {
            DUE.is("nothing to nothing", x.paste(slot, 0, slot, 0, 0), -6);
            DUE.is("nothing to nothing, and beyond", x.paste(slot, -1, 3 - slot, 60, -1), -6);
        }
        x.row(0, 0, 3);
        DUE.is("from nothing", x.paste(1, 0, 0, 0, 0), -6);
        DUE.is("to nothing", x.paste(0, 0, 1, 0, 0), -6);
        DUE.is("to nothing, and beyond", x.paste(0, 4, 1, 0, -1), -6);
        DUE.is("no such slot ahead of nothing", x.paste(1, 0, 4, 0, 0), -2);
        DUE.is("no such slot ahead of nothing", x.paste(4, 0, 1, 0, 0), -2);
        for (int one = 0; one < 4; one++) {
            for (int two = 0; two < 4; two++) {
                x.row(0, one, 3);
                x.row(1, two, 3);
                DUE.is("widths " + one + " " + two, x.paste(0, 0, 1, 0, 3), one == two ? 0 : -8);
                DUE.is("none of widths " + one + " " + two, x.paste(0, 0, 1, 0, 0), one == two ? 0 : -8);
                DUE.is("beyond, of widths " + one + " " + two, x.paste(0, 0, 1, 0, 4), one == two ? -7 : -8);
                DUE.is("below 0, of widths " + one + " " + two, x.paste(0, -1, 1, 0, 0), one == two ? -7 : -8);
            }
        }
        DUE.says("76", "-7, and nothing happens: some are beyond their rows, or a place or n is below 0.");
        x = twoRows(1);
        int[][] beyond = {
            {0, 0, 6}, {0, 1, 5}, {0, 5, 1}, {56, 0, 5}, {60, 0, 1}, {59, 0, 2}, {61, 0, 0}, {0, 6, 0}, {-1, 0, 1}, {0, -1, 1}, {0, 0, -1},
            {-1, 0, 0}, {0, -1, 0}, {-1, -1, -1}, {Integer.MAX_VALUE, 0, 1}, {0, Integer.MAX_VALUE, 1}, {0, 0, Integer.MAX_VALUE},
            {Integer.MAX_VALUE, Integer.MAX_VALUE, Integer.MAX_VALUE}, {1, 1, Integer.MAX_VALUE}, {Integer.MIN_VALUE, 0, 1},
            {0, Integer.MIN_VALUE, 1}, {0, 0, Integer.MIN_VALUE}, {Integer.MIN_VALUE, 0, Integer.MIN_VALUE}, {60, 5, -1}, {1, 1, -1}
        };
        for (int[] a : beyond) {
            DUE.is("from " + a[0] + " to " + a[1] + ", " + a[2], x.paste(0, a[0], 1, a[1], a[2]), -7);
        }
        has("nothing happened", x, 1, 1, 1, 2, 3, 4, 5);
        x = twoRows(1);
        for (int[] a : new int[][] {{0, 56, 5}, {0, 60, 1}, {1, 0, 5}, {5, 0, 1}, {0, -1, 1}, {-1, 0, 1}, {0, 0, 6}, {6, 0, 0}, {0, 61, 0}}) {
            DUE.is("back from " + a[0] + " to " + a[1] + ", " + a[2], x.paste(1, a[0], 0, a[1], a[2]), -7);
        }
        for (int[] a : new int[][] {{0, 1, 5}, {1, 0, 5}, {0, 0, 6}, {0, -1, 2}, {-1, 0, 2}}) {
            DUE.is("its own from " + a[0] + " to " + a[1] + ", " + a[2], x.paste(1, a[0], 1, a[1], a[2]), -7);
        }
        has("nothing happened", x, 1, 1, 1, 2, 3, 4, 5);
        has("nothing happened", x, 0, 1, 10, 11, 12, 13, 14, 15);
        DUE.is("nothing happened", read(x, 0, 1, 59), 69);
    }
}

/** Promises 52 to 57: what water was told as, and which law, by what was seen. */
public final class SeenTest {
    private static final Due DUE = new Due("SeenTest");

    public static void main(String[] args) {
        court();
        other();
        laws();
        wrong();
        cut();
        DUE.close();
    }

    private static void see(MoatRanks x, int slot, int... numbers) {
        x.row(slot, 0, numbers.length);
        for (int i = 0; i < numbers.length; i++) {
            x.write(slot, i, numbers[i]);
        }
    }

    private static void is(MoatRanks x, int rank, int... due) {
        DUE.is("waters", x.waters(0, rank), due[0]);
        DUE.is("least", x.least(0, rank), due[1]);
        DUE.is("greatest", x.greatest(0, rank), due[2]);
        DUE.is("ask", x.ask(0, rank), due[3]);
        DUE.is("leaves", x.leaves(0, rank), due[4]);
    }

    private static void court() {
        MoatRanks x = Due.told(Texts.COURT);
        // rank 0 in year 0 has told - 3, 0 to 10: 0 by four of a hundred, 10 by 13 .. 99; later more are alike
        see(x, 0);
        is(x, 0, 100, 0, 99, 0, 87);
        see(x, 0, 0, 0, 9);
        is(x, 0, 1, 12, 12, -1, 1);
        see(x, 0, 0, 0, 10);
        is(x, 0, 87, 13, 99, -1, 87);
        see(x, 0, 0, 0, 0);
        is(x, 0, 4, 0, 3, -1, 4);
        see(x, 0, 0, 0, 11);
        is(x, 0, 0, -1, -1, -1, 0);
        // 10 in year 1: told as 8 or more; year 0 parts 8 .. 12 from 13 .. 99
        see(x, 0, 0, 1, 10);
        is(x, 0, 92, 8, 99, 0, 87);
        see(x, 0, 0, 1, 10, 0, 0, 6);
        is(x, 0, 1, 9, 9, -1, 1);
        DUE.is("told as it was", x.rank(0, 1), 12);
        DUE.is("nothing was done", x.keeps(), 73);
    }

    private static void other() {
        MoatRanks x = Due.told(Texts.COURT);
        // no water in moat 2 in year 0: from moat 0 (told as t) t - 13 came to the 19 of moat 1, at most 1
        see(x, 0, 2, 0, 0);
        is(x, 0, 15, 0, 14, 0, 4);
        // a moat that is dredged tells nothing
        x.dredge(2, 0);
        is(x, 0, 100, 0, 99, 0, 87);
        x.undo();
        // in frost the water is as told: year 0 leaves one, year 1 many that are full
        x = Due.told("dukedom years 3 law 0 odds 0; rank wide 1 water 50 drains 0 swims 0; rain 40 at 0; rain 40 at 1; frost at 0;");
        see(x, 0);
        is(x, 0, 100, 0, 99, 0, 1);
        x = Due.told("dukedom years 3 law 0 odds 0; rank wide 1 water 50 drains 10 swims 0; rain 40 at 0;");
        // year 0: told + 30, 69 at most (99 by 69 .. 99, 31 of them); year 1 and 2 the same, less 10 each
        see(x, 0);
        is(x, 0, 100, 0, 99, 0, 31);
        see(x, 0, 0, 2, 79);
        is(x, 0, 31, 69, 99, -1, 31);
    }

    private static void laws() {
        MoatRanks x = Due.told(Texts.LAWS);
        see(x, 0);
        DUE.is("all laws", x.laws(0), 15);
        see(x, 0, 1, 0, 4);
        DUE.is("0 and 3", x.laws(0), 9);
        see(x, 0, 1, 0, 4, 0, 0, 5);
        DUE.is("3", x.laws(0), 8);
        see(x, 0, 1, 0, 7);
        DUE.is("2", x.laws(0), 4);
        see(x, 0, 1, 0, 10);
        DUE.is("1", x.laws(0), 2);
        see(x, 0, 2, 0, 15);
        DUE.is("1, 2, 3", x.laws(0), 14);
        see(x, 0, 2, 0, 16);
        DUE.is("none", x.laws(0), 0);
        DUE.is("law as told", x.count(1), 2);
    }

    private static void all(String what, MoatRanks x, int slot, int rank, int due) {
        DUE.is("waters " + what, x.waters(slot, rank), due);
        DUE.is("least " + what, x.least(slot, rank), due);
        DUE.is("greatest " + what, x.greatest(slot, rank), due);
        DUE.is("ask " + what, x.ask(slot, rank), due);
        DUE.is("leaves " + what, x.leaves(slot, rank), due);
    }

    private static void wrong() {
        MoatRanks x = Due.told(Texts.COURT);
        all("nothing there", x, 0, 0, -6);
        DUE.is("laws nothing there", x.laws(3), -6);
        all("no such slot", x, 4, 0, -2);
        all("no such slot", x, -1, 0, -2);
        all("no such rank, nothing there", x, 0, 3, -2);
        all("no such rank", x, 0, -1, -2);
        DUE.is("laws of no such slot", x.laws(4), -2);
        DUE.is("laws of no such slot", x.laws(-1), -2);
        for (int[] row : new int[][] {{3, 0, 0}, {-1, 0, 0}, {0, 5, 0}, {0, -1, 0}, {0, 0, 100}, {0, 0, -1}, {0, 0, 9, 0}, {0, 0, 9, 0, 0},
                {0, 0, 9, 1, 0, 100}}) {
            see(x, 0, row);
            all("of a row that is none", x, 0, 0, -2);
            DUE.is("laws of a row that is none", x.laws(0), -2);
        }
        see(x, 0, 2, 4, 99);
        DUE.is("99 can be told", x.waters(0, 0), 0);
        x = new MoatRanks();
        all("without a dukedom", x, 0, 0, -2);
        DUE.is("laws without a dukedom", x.laws(0), -2);
        see(x, 0);
        all("without a dukedom", x, 0, 0, -2);
        DUE.is("laws without a dukedom", x.laws(0), -2);
    }

    private static void cut() {
        MoatRanks x = Due.told(Texts.COURT);
        int[] due = {1, 1, 1, -2};
        long[] past = {256L + 9, 65536L + 9, 4294967296L + 9, Long.MIN_VALUE + 9};
        for (int width = 0; width < 4; width++) {
            x.row(0, width, 3);
            x.write(0, 2, past[width]);
            DUE.is("cut to width " + width, x.waters(0, 0), due[width]);
            x.row(0, width, 3);
            x.write(0, 2, width == 0 ? 200 : 265L);
            DUE.is("not cut in width " + width, x.waters(0, 0), -2);
        }
    }
}

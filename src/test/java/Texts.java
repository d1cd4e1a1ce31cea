/**
 * Dukedoms whose answers were worked out by hand.
 *
 * <p>COURT, by law 1. Brims 10, 20, 5; water by years 0 .. 4: rank 0: 9 10 10 7 4, rank 1: 19 20 20 19 18, rank 2:
 * 0 5 5 5 5. In year 1 (rain 8) rank 0 has 17 - 3 = 14, 4 run over; rank 1 has 27 - 1 + 4 = 30, 10 run over; rank 2 has
 * 8 + 10 = 18, 13 are lost. Year 2 is frost. Plank 0 is long enough for rank 0's moat, plank 1 too short for rank 1's.
 * Invites: 0 and 6 are kept, and 3 by frost; 1 is hindered by moat 1, 2 by moats 1 and 2, 5 by moat 1; 4 has no year.
 */
final class Texts {
    static final String COURT = "dukedom years 5 law 1 odds 3 ;\n"
            + "rank wide 2 water 12 drains 3 swims 4 ;\n"
            + "rank wide 4 water 20 drains 1 swims 19 ;\n"
            + "rank wide 1 water 0 drains 0 swims 0 ;\n"
            + "plank 2 on 0 ; plank 3 on 1 ;\n"
            + "rain 6 at 1 ; rain 2 at 1 ; rain 40 at 9 ;\n"
            + "frost at 2 ; frost at 12 ;\n"
            + "invite 1 0 at 0 ; invite 0 1 at 0 ; invite 2 1 at 1 ; invite 2 0 at 2 ;\n"
            + "invite 0 2 at 9 ; invite 1 2 at 1 ; invite 2 0 at 0 ;\n";

    /** One year alone; by laws 0 .. 3 rank 0 has 20 5 5 5, rank 1 has 4 10 7 4, rank 2 has 18 15 15 15. */
    static final String LAWS = "dukedom years 1 law 2 odds 0;"
            + "rank wide 1 water 20 drains 0 swims 5;"
            + "rank wide 2 water 4 drains 0 swims 5;"
            + "rank wide 3 water 18 drains 0 swims 17;"
            + "invite 2 0 at 0; invite 2 1 at 0;";

    /** No rank at all. */
    static final String EMPTY = "dukedom years 3 law 1 odds 5 ;";

    private Texts() {
    }
}

/** Promises 1 to 10 and 71: the tape, its text and faults, and what is told. */
public final class TextTest {
    private static final Due DUE = new Due("TextTest");
    private static final String HEAD = "dukedom years 5 law 1 odds 3;";
    private static final String RANK = "rank wide 1 water 1 drains 1 swims 1;";
    private static final String TWO = HEAD + RANK + RANK;

    public static void main(String[] args) {
        newObject();
        tape();
        dukedoms();
        faultsOfPlace();
        faultsOfBounds();
        faultsOfNumber();
        afterFaults();
        told();
        DUE.close();
    }

    private static void newObject() {
        MoatRanks x = new MoatRanks();
        DUE.is("NONE", MoatRanks.NONE, -1);
        for (int what = 0; what <= 11; what++) {
            DUE.is("new count " + what, x.count(what), 0);
        }
        DUE.is("count(12)", x.count(12), -1);
        DUE.is("count(-1)", x.count(-1), -1);
        DUE.is("new fault 0", x.fault(0), 0);
        DUE.is("new fault 1", x.fault(1), -1);
        DUE.is("new fault 2", x.fault(2), -1);
        DUE.is("new fault -1", x.fault(-1), -1);
        DUE.is("new frosts", x.frosts(), -2);
        DUE.is("new rank", x.rank(0, 0), -2);
        DUE.is("new rain", x.rain(0), -2);
    }

    private static void tape() {
        MoatRanks x = new MoatRanks();
        for (int i = 1; i <= 45; i++) {
            DUE.is("feed " + i, x.feed(0, 0, 0, 0, 0), 20 * i);
        }
        DUE.is("feed beyond 900", x.feed(0, 0, 0, 0, 0), -1);
        DUE.is("none came", x.count(10), 900);
        DUE.is("end beyond", x.end(901), -1);
        DUE.is("end below", x.end(-1), -1);
        DUE.is("nothing happened", x.count(10), 900);
        DUE.is("end as it is", x.end(900), 900);
        DUE.is("end 881", x.end(881), 881);
        DUE.is("901 are too many", x.feed(0, 0, 0, 0, 0), -1);
        DUE.is("end 880", x.end(880), 880);
        DUE.is("900 are not", x.feed(0, 0, 0, 0, 0), 900);
        DUE.is("end 0", x.end(0), 0);
        // "dukedom years 16 law" " 0 odds 0;" as bytes, the highest of a number first
        DUE.is("by bytes", x.feed(0x64756b65, 0x646f6d20, 0x79656172, 0x73203136, 0x206c6177), 20);
        DUE.is("by bytes", x.feed(0x2030206f, 0x64647320, 0x303b0000, 0, 0), 40);
        DUE.is("zeros are no blanks", x.dukedom(), -4);
        DUE.is("fault", x.fault(0), 1);
        DUE.is("place", x.fault(1), 30);
        DUE.is("cut", x.end(30), 30);
        DUE.is("told", x.dukedom(), 1);
        DUE.is("years", x.count(0), 16);
        DUE.is("law", x.count(1), 0);
        DUE.is("the tape is empty then", x.count(10), 0);
    }

    private static void dukedoms() {
        MoatRanks x = Due.told(Texts.COURT);
        DUE.is("lines", x.count(9), 18);
        x.adds(4, 1);
        Due.feedText(x, Texts.EMPTY);
        DUE.is("in place of another", x.dukedom(), 1);
        DUE.is("nothing done", x.count(8), 0);
        DUE.is("no ranks", x.count(3), 0);
        DUE.is("years", x.count(0), 3);
        DUE.is("law", x.count(1), 1);
        DUE.is("odds", x.count(2), 5);
        DUE.is("no rain", x.rains(), 0);
        DUE.is("no frost", x.frosts(), 0);
        DUE.is("empty tape", x.dukedom(), 0);
        DUE.is("none then", x.frosts(), -2);
        DUE.is("none then", x.count(0), 0);
        Due.feedText(x, Texts.COURT);
        DUE.is("again", x.dukedom(), 18);
        Due.feedText(x, " \n\n  ");
        DUE.is("blanks alone", x.dukedom(), 0);
        DUE.is("none then", x.keeps(), -2);
        Due.feedText(x, "dukedom\nyears\n05law 003odds10;rank wide1water\n2drains 3swims 4;");
        DUE.is("tokens without blanks", x.dukedom(), 2);
        DUE.is("years", x.count(0), 5);
        DUE.is("odds", x.count(2), 10);
        DUE.is("water", x.rank(0, 1), 2);
    }

    private static void faultsOfPlace() {
        DUE.faultAt("^;", 1);
        DUE.faultAt("^7", 1);
        DUE.faultAt("^rank wide 1 water 1 drains 1 swims 1;", 1);
        DUE.faultAt("^dukedoms years 5 law 1 odds 3;", 1);
        DUE.faultAt("  ^dukedo years 5 law 1 odds 3;", 1);
        DUE.faultAt("^Dukedom years 5 law 1 odds 3;", 1);
        DUE.faultAt("\t^dukedom".replace("\t^", "^\t"), 1);
        DUE.faultAt("dukedom^", 1);
        DUE.faultAt("dukedom  \n^", 1);
        DUE.faultAt("dukedom ^5 law 1 odds 3;", 1);
        DUE.faultAt("dukedom years ^law 1 odds 3;", 1);
        DUE.faultAt("dukedom years ^-5 law 1 odds 3;", 1);
        DUE.faultAt("dukedom years 5^, law 1 odds 3;", 1);
        DUE.faultAt("dukedom years 5 ^odds 1 law 3;", 1);
        DUE.faultAt("dukedom years 5 law 1 odds 3^", 1);
        DUE.faultAt("dukedom years 5 law 1 odds 3 ^rank", 1);
        DUE.faultAt("dukedom years 5 law 1 odds 3 ^4;", 1);
        DUE.faultAt(HEAD + "^;", 1);
        DUE.faultAt(HEAD + " ^dukedom years 5 law 1 odds 3;", 1);
        DUE.faultAt(HEAD + "^ranks wide 1", 1);
        DUE.faultAt(HEAD + "^9", 1);
        DUE.faultAt(HEAD + "^\u00e4", 1);
        DUE.faultAt(HEAD + "^\u0000", 1);
        DUE.faultAt(HEAD + "rank wide 1 ^drains 1", 1);
        DUE.faultAt(HEAD + "rank wide 1 water 1 drains 1 swims 1^", 1);
        DUE.faultAt(TWO + "plank 1 ^at 0;", 1);
        DUE.faultAt(TWO + "plank ^on 0;", 1);
        DUE.faultAt(TWO + "rain 1 ^on 0;", 1);
        DUE.faultAt(TWO + "frost ^0;", 1);
        DUE.faultAt(TWO + "invite 0 ^at 0;", 1);
        DUE.faultAt(TWO + "invite 0 1 ^0;", 1);
        DUE.faultAt(TWO + "invite 0 1 at 0 ^at", 1);
    }

    private static void faultsOfBounds() {
        DUE.faultAt("dukedom years ^0 law 1 odds 3;", 2);
        DUE.faultAt("dukedom years ^17 law 1 odds 3;", 2);
        DUE.faultAt("dukedom years ^17", 2);
        DUE.faultAt("dukedom years ^4294967301 law 1 odds 3;", 2);
        DUE.faultAt("dukedom years ^18446744073709551617 law 1 odds 3;", 2);
        DUE.faultAt("dukedom years 1 law ^4 odds 3;", 2);
        DUE.faultAt("dukedom years 1 law 3 odds ^11;", 2);
        DUE.faultAt(HEAD + "rank wide ^0 water 0 drains 0 swims 0;", 2);
        DUE.faultAt(HEAD + "rank wide ^10 water 0 drains 0 swims 0;", 2);
        DUE.faultAt(HEAD + "rank wide 9 water ^100 drains 0 swims 0;", 2);
        DUE.faultAt(HEAD + "rank wide 9 water 99 drains ^21 swims 0;", 2);
        DUE.faultAt(HEAD + "rank wide 9 water 99 drains 20 swims ^31;", 2);
        DUE.faultAt(HEAD + "plank 1 on ^0;", 2);
        DUE.faultAt(TWO + "plank ^0 on 0;", 2);
        DUE.faultAt(TWO + "plank ^10 on 0;", 2);
        DUE.faultAt(TWO + "plank 9 on ^2;" + RANK, 2);
        DUE.faultAt(HEAD + "rain ^0 at 0;", 2);
        DUE.faultAt(HEAD + "rain ^41 at 0;", 2);
        DUE.faultAt(HEAD + "rain 40 at ^16;", 2);
        DUE.faultAt(HEAD + "frost at ^16;", 2);
        DUE.faultAt(TWO + "invite ^2 0 at 0;", 2);
        DUE.faultAt(TWO + "invite 0 ^2 at 0;", 2);
        DUE.faultAt(TWO + "invite 1 ^1 at 0;", 2);
        DUE.faultAt(TWO + "invite 0 1 at ^16;", 2);
        DUE.faultAt(HEAD + "invite ^0 0 at 0;", 2);
    }

    private static void faultsOfNumber() {
        DUE.faultAt(HEAD + RANK.repeat(6) + "^" + RANK, 3);
        DUE.faultAt(HEAD + RANK.repeat(6) + "^rank wide 0", 3);
        DUE.faultAt(TWO + "plank 1 on 0;".repeat(5) + "^plank", 3);
        DUE.faultAt(HEAD + "rain 1 at 0;".repeat(5) + " ^rain 1 at 0;", 3);
        DUE.faultAt(HEAD + "frost at 0;".repeat(4) + "\n^frost at 0;", 3);
        DUE.faultAt(TWO + "invite 0 1 at 0;".repeat(8) + "^invite 0 1 at 0;", 3);
        MoatRanks x = new MoatRanks();
        Due.feedText(x, "dukedom years 16 law 3 odds 0;" + RANK.repeat(6) + "plank 1 on 5;".repeat(5) + "rain 1 at 15;".repeat(5)
                + "frost at 15;".repeat(4) + "invite 5 4 at 15;".repeat(8));
        DUE.is("as many as can be", x.dukedom(), 29);
        int[] counts = {16, 3, 0, 6, 5, 5, 4, 8, 0, 29, 0, 0};
        for (int what = 0; what < counts.length; what++) {
            DUE.is("count(" + what + ")", x.count(what), counts[what]);
        }
        DUE.is("rain", x.rain(15), 5);
        DUE.is("frosts", x.frosts(), 1 << 15);
    }

    private static void afterFaults() {
        MoatRanks x = Due.told(Texts.COURT);
        x.adds(4, 1);
        Due.feedText(x, "dukedom years 7 law 1 odds 30;");
        DUE.is("a fault", x.dukedom(), -4);
        DUE.is("all stays: acts", x.count(8), 1);
        DUE.is("all stays: lines", x.count(9), 18);
        DUE.is("all stays: years", x.count(0), 5);
        DUE.is("all stays: the tape", x.count(10), 30);
        DUE.is("all stays: invites", x.keeps(), 107);
        DUE.is("the same once more", x.dukedom(), -4);
        DUE.is("fault 2", x.fault(0), 2);
        DUE.is("place", x.fault(1), 27);
        x.end(0);
        DUE.is("no text", x.dukedom(), 0);
        DUE.is("of the latest: none", x.fault(0), 0);
        DUE.is("of the latest: no place", x.fault(1), -1);
    }

    private static void told() {
        MoatRanks x = Due.told(Texts.COURT);
        int[][] ranks = {{2, 12, 3, 4}, {4, 20, 1, 19}, {1, 0, 0, 0}};
        for (int r = 0; r < 3; r++) {
            for (int what = 0; what < 4; what++) {
                DUE.is("rank(" + r + ", " + what + ")", x.rank(r, what), ranks[r][what]);
            }
        }
        DUE.is("rank(3, 0)", x.rank(3, 0), -2);
        DUE.is("rank(-1, 0)", x.rank(-1, 0), -2);
        DUE.is("rank(0, 4)", x.rank(0, 4), -2);
        DUE.is("rank(0, -1)", x.rank(0, -1), -2);
        DUE.is("plank(0, 0)", x.plank(0, 0), 2);
        DUE.is("plank(0, 1)", x.plank(0, 1), 0);
        DUE.is("plank(1, 0)", x.plank(1, 0), 3);
        DUE.is("plank(1, 1)", x.plank(1, 1), 1);
        DUE.is("plank(2, 0)", x.plank(2, 0), -2);
        DUE.is("plank(-1, 0)", x.plank(-1, 0), -2);
        DUE.is("plank(0, 2)", x.plank(0, 2), -2);
        DUE.is("invite(5, 0)", x.invite(5, 0), 1);
        DUE.is("invite(5, 1)", x.invite(5, 1), 2);
        DUE.is("invite(5, 2)", x.invite(5, 2), 1);
        DUE.is("invite(4, 2)", x.invite(4, 2), 9);
        DUE.is("invite(7, 0)", x.invite(7, 0), -2);
        DUE.is("invite(-1, 0)", x.invite(-1, 0), -2);
        DUE.is("invite(0, 3)", x.invite(0, 3), -2);
        DUE.is("rain(0)", x.rain(0), 0);
        DUE.is("rain(1)", x.rain(1), 8);
        DUE.is("rain(5)", x.rain(5), -2);
        DUE.is("rain(9)", x.rain(9), -2);
        DUE.is("rain(-1)", x.rain(-1), -2);
        DUE.is("frosts of years there are", x.frosts(), 4);
        int[] counts = {5, 1, 3, 3, 2, 3, 2, 7, 0, 18, 0, 0};
        for (int what = 0; what < counts.length; what++) {
            DUE.is("count(" + what + ")", x.count(what), counts[what]);
        }
    }
}

import java.util.Arrays;
import java.util.function.ToIntFunction;

/** Term I, the text block, promises 1 to 10 and 71: each boundary that the document names, from both sides. */
public final class TextBoundsTest {
    private static final Due DUE = new Due("TextBoundsTest");
    private static final String HEAD = "dukedom years 16 law 0 odds 0;";
    private static final String RANK = "rank wide 1 water 0 drains 0 swims 0;";
    private static final String SIX = HEAD + RANK.repeat(6);
    private static final String FULL = SIX + "plank 1 on 0;".repeat(5) + "rain 1 at 0;".repeat(5) + "frost at 0;".repeat(4)
            + "invite 0 1 at 0;".repeat(8);
    private static final int[] FAR = {Integer.MIN_VALUE, Integer.MIN_VALUE + 1, -1000, -2, -1, 1000, Integer.MAX_VALUE - 1, Integer.MAX_VALUE};

    public static void main(String[] args) {
        newObject();
        feed();
        end();
        lines();
        bounds();
        ranksAhead();
        asManyAsCanBe();
        tokens();
        faults();
        dukedom();
        fault();
        told();
        years();
        counts();
        DUE.close();
    }

    private static void newObject() {
        DUE.says("1", "No DUKEDOM.");
        MoatRanks x = new MoatRanks();
        for (int what = 0; what <= 11; what++) {
            DUE.is("count(" + what + ")", x.count(what), 0);
        }
        long[] none = {
            x.rank(0, 0), x.plank(0, 0), x.invite(0, 0), x.rain(0), x.frosts(), x.water(0, 0), x.spills(0, 0), x.lost(0), x.drained(0, 0),
            x.all(0), x.dry(0), x.deepest(0), x.most(0), x.dries(0), x.wet(0), x.flood(), x.rains(), x.lone(), x.over(0, 0, 0), x.comes(0, 0),
            x.guests(0, 0), x.first(0, 1), x.often(0, 1), x.news(0, 0, 0), x.friends(0), x.fair(), x.fords(0, 0), x.shut(0), x.widest(0),
            x.kept(0), x.keeps(), x.hinders(0), x.hosts(0), x.goes(0), x.host(), x.idle(), x.best(), x.lay(0), x.ways(), x.fills(), x.filled(),
            x.path(), x.drain(0), x.learns(0), x.by(0), x.law(), x.waters(0, 0), x.least(0, 0), x.greatest(0, 0), x.ask(0, 0), x.leaves(0, 0),
            x.laws(0), x.worth(0), x.share(0, 0), x.rests(0, 1), x.chance(0, 1, 0, 0), x.mean(0, 0, 0), x.adds(1, 0), x.dredge(0, 0), x.undo(),
            x.anew(), x.drawn(0, 0), x.luck(0, 1, 0), x.digs(0, 1)
        };
        for (int i = 0; i < none.length; i++) {
            DUE.is("call " + i + " without a dukedom", none[i], -2);
        }
        DUE.is("gets without a dukedom", x.gets(0, 1, 0, 0), -1000);
        DUE.is("write to nothing", x.write(0, 0, 0), -6);
        DUE.is("paste of nothing", x.paste(0, 0, 1, 0, 0), -6);
        DUE.is("back to nothing", x.back(0), -6);
    }

    /** Blanks, but for one sign that is none in a place of the twenty bytes. */
    private static int feedSignAt(MoatRanks x, int place) {
        int[] n = {0x20202020, 0x20202020, 0x20202020, 0x20202020, 0x20202020};
        n[place / 4] += 1 << 8 * (3 - place % 4);
        return x.feed(n[0], n[1], n[2], n[3], n[4]);
    }

    private static void feed() {
        for (int place = 0; place < 20; place++) {
            DUE.says("2", "Twenty bytes come behind the TAPE, four of each number, the highest first: how many it has");
            MoatRanks x = new MoatRanks();
            DUE.is("feed", feedSignAt(x, place), 20);
            DUE.is("a sign that is none", x.dukedom(), -4);
            DUE.is("its place", x.fault(1), place);
            x.end(0);
            feedSignAt(x, 19);
            x.end(7);
            DUE.is("behind seven", feedSignAt(x, place), 27);
            DUE.is("a sign that is none", x.dukedom(), -4);
            DUE.is("its place", x.fault(1), 7 + place);
        }
        MoatRanks x = new MoatRanks();
        DUE.is("bytes of 255", x.feed(-1, -1, -1, -1, -1), 20);
        DUE.is("they are no blanks", x.dukedom(), -4);
        DUE.is("the first of them", x.fault(1), 0);

        DUE.says("2", "NONE, and none come, if it would have more than 900");
        for (int size = 900; size >= 879; size--) {
            x = new MoatRanks();
            blanks(x, size);
            DUE.is("behind " + size, feedSignAt(x, 0), size > 880 ? -1 : size + 20);
            DUE.is("how many there are", x.count(10), size > 880 ? size : size + 20);
            DUE.is("blanks alone if none came", x.dukedom(), size > 880 ? 0 : -4);
            DUE.is("the place of what came", x.fault(1), size > 880 ? -1 : size);
        }
    }

    private static void blanks(MoatRanks x, int n) {
        for (int i = 0; i < n; i += 20) {
            x.feed(0x20202020, 0x20202020, 0x20202020, 0x20202020, 0x20202020);
        }
        x.end(n);
    }

    private static void end() {
        String two = "dukedom years 2 law 0 odds 0;" + RANK;
        DUE.says("3", "The TAPE has its first n bytes alone: n");
        MoatRanks x = new MoatRanks();
        DUE.is("none of none", x.end(0), 0);
        Due.feedText(x, two);
        DUE.is("as many as there are", x.end(two.length()), two.length());
        DUE.is("one less", x.end(two.length() - 1), two.length() - 1);
        DUE.is("the last sign is gone", x.dukedom(), -4);
        DUE.is("at the end", x.fault(1), two.length() - 1);
        DUE.is("the first line", x.end(29), 29);
        DUE.is("alone", x.dukedom(), 1);
        Due.feedText(x, two);
        DUE.is("one byte", x.end(1), 1);
        DUE.is("none", x.end(0), 0);
        DUE.is("none is there", x.count(10), 0);
        DUE.is("no text", x.dukedom(), 0);

        DUE.says("3", "NONE, and nothing happens, if it has not so many, or n is below 0");
        x = new MoatRanks();
        DUE.is("one of none", x.end(1), -1);
        Due.feedText(x, two);
        DUE.is("one more", x.end(two.length() + 1), -1);
        DUE.is("900 of fewer", x.end(900), -1);
        for (int n : FAR) {
            DUE.is("end(" + n + ")", x.end(n), -1);
        }
        DUE.is("what is there", x.count(10), two.length());
        DUE.is("as it was", x.dukedom(), 2);
    }

    private static final String[][] LINES = {
        {"dukedom", "years", "5", "law", "1", "odds", "3", ";"}, {"rank", "wide", "1", "water", "2", "drains", "3", "swims", "4", ";"},
        {"plank", "1", "on", "0", ";"}, {"rain", "1", "at", "0", ";"}, {"frost", "at", "0", ";"}, {"invite", "0", "1", "at", "0", ";"}
    };

    private static void lines() {
        DUE.says("I", "DUKEDOM: {LINE ;}.");
        DUE.reads("", 0);
        DUE.reads(HEAD, 1);
        DUE.faultAt(HEAD.substring(0, HEAD.length() - 1) + "^", 1);
        DUE.faultAt("^;", 1);
        DUE.faultAt("^;" + HEAD, 1);
        DUE.faultAt(HEAD + "^;", 1);
        DUE.faultAt(HEAD + RANK + "^;" + RANK, 1);
        DUE.says("I", "LINE: dukedom years N law N odds N | rank wide N water N drains N swims N | plank N on R | rain N at N | frost at N"
                + " | invite R R at N.");
        for (int kind = 0; kind < LINES.length; kind++) {
            String ahead = kind == 0 ? "" : HEAD + RANK + RANK;
            DUE.reads(ahead + String.join(" ", LINES[kind]), kind == 0 ? 1 : 4);
            for (int at = 0; at < LINES[kind].length; at++) {
                spoil(ahead, LINES[kind], at);
                misspell(ahead, LINES[kind], at);
            }
        }
        DUE.says("I", "dukedom is the first LINE and no other:");
        DUE.faultAt("^" + RANK, 1);
        DUE.faultAt("^plank 1 on 0;", 1);
        DUE.faultAt("^rain 1 at 0;", 1);
        DUE.faultAt("^frost at 0;", 1);
        DUE.faultAt("^invite 0 1 at 0;", 1);
        DUE.faultAt(HEAD + "^" + HEAD, 1);
        DUE.faultAt(FULL + "^dukedom", 1);
    }

    private static String joined(String ahead, String[] line, int at, String mark, String[] instead) {
        StringBuilder s = new StringBuilder(ahead);
        for (int i = 0; i < line.length; i++) {
            if (i == at) {
                s.append(mark);
                for (String token : instead) {
                    s.append(token).append(' ');
                }
            } else {
                s.append(line[i]).append(' ');
            }
        }
        return s.toString();
    }

    /** Another letter in each place of a word, one less, one more, the word twice: 1, at the word. */
    private static void misspell(String ahead, String[] line, int at) {
        String word = line[at];
        if (!Character.isLetter(word.charAt(0))) {
            return;
        }
        for (int i = 0; i < word.length(); i++) {
            for (char c : new char[] {'a', 'q', 'z'}) {
                String other = word.substring(0, i) + c + word.substring(i + 1);
                if (!other.equals(word)) {
                    DUE.faultAt(joined(ahead, line, at, "^", new String[] {other}), 1);
                }
            }
            DUE.faultAt(joined(ahead, line, at, "^", new String[] {word.substring(0, i) + word.substring(i + 1)}), 1);
            DUE.faultAt(joined(ahead, line, at, "^", new String[] {word.substring(0, i) + "z" + word.substring(i)}), 1);
        }
        DUE.faultAt(joined(ahead, line, at, "^", new String[] {word + word}), 1);
    }

    /** The line without a token, with another one in its place, or ending ahead of it: 1, there. */
    private static void spoil(String ahead, String[] line, int at) {
        boolean isNumber = Character.isDigit(line[at].charAt(0));
        for (String other : new String[] {"!", "Z", "zzz", ";;", "-1"}) {
            if (!(other.equals(";;") && line[at].equals(";"))) {
                DUE.faultAt(joined(ahead, line, at, "^", new String[] {other}), 1);
            }
        }
        if (line[at].equals(";")) {
            DUE.faultAt(joined(ahead, line, at, "", new String[] {";", "^;"}), 1);
        } else {
            DUE.faultAt(joined(ahead, line, at, "^", new String[] {";"}), 1);
        }
        if (isNumber) {
            DUE.faultAt(joined(ahead, line, at, "^", new String[] {"years"}), 1);
        } else {
            DUE.faultAt(joined(ahead, line, at, "^", new String[] {"1"}), 1);
            DUE.faultAt(joined(ahead, line, at, "^", new String[] {line[at] + (line[at].equals(";") ? "x" : "s")}).replace("^;x", ";^x"), 1);
        }
        if (at > 0) {
            String[] cut = Arrays.copyOf(line, at + 1);
            DUE.faultAt(joined(ahead, cut, at, "^", new String[0]), 1);
        }
        boolean sameBehind = at + 1 < line.length && isNumber && Character.isDigit(line[at + 1].charAt(0));
        if (at + 1 < line.length && !sameBehind) {
            DUE.faultAt(joined(ahead, line, at, "^", new String[0]), 1);
        }
    }

    private static void bounds() {
        DUE.says("I", "years 1 .. 16, law 0 .. 3, odds 0 .. 10.");
        number("dukedom years ", 1, 16, " law 0 odds 0;", x -> x.count(0));
        number("dukedom years 1 law ", 0, 3, " odds 0;", x -> x.count(1));
        number("dukedom years 1 law 0 odds ", 0, 10, ";", x -> x.count(2));
        DUE.says("I", "rank: wide 1 .. 9, water 0 .. 99, drains 0 .. 20, swims 0 .. 30.");
        number(HEAD + "rank wide ", 1, 9, " water 0 drains 0 swims 0;", x -> x.rank(0, 0));
        number(HEAD + "rank wide 1 water ", 0, 99, " drains 0 swims 0;", x -> x.rank(0, 1));
        number(HEAD + "rank wide 1 water 0 drains ", 0, 20, " swims 0;", x -> x.rank(0, 2));
        number(HEAD + "rank wide 1 water 0 drains 0 swims ", 0, 30, ";", x -> x.rank(0, 3));
        DUE.says("I", "plank: 1 .. 9,");
        number(HEAD + RANK + "plank ", 1, 9, " on 0;", x -> x.plank(0, 0));
        DUE.says("I", "rain: 1 .. 40, at 0 .. 15.");
        number(HEAD + "rain ", 1, 40, " at 0;", x -> x.rain(0));
        number(HEAD + "rain 1 at ", 0, 15, ";", x -> firstRain(x));
        DUE.says("I", "frost: at 0 .. 15.");
        number(HEAD + "frost at ", 0, 15, ";", x -> Integer.numberOfTrailingZeros(x.frosts()));
        DUE.says("I", "at 0 .. 15. RANKS");
        number(HEAD + RANK + RANK + "invite 0 1 at ", 0, 15, ";", x -> x.invite(0, 2));
    }

    private static int firstRain(MoatRanks x) {
        for (int year = 0; year < 16; year++) {
            if (x.rain(year) > 0) {
                return year;
            }
        }
        return -1;
    }

    /** Both sides of both bounds; numbers of many digits, which must not wrap around; zeros ahead of a number. */
    private static void number(String ahead, int lowest, int highest, String behind, ToIntFunction<MoatRanks> as) {
        int lines = (ahead + behind).split(";", -1).length - 1;
        for (int n = lowest; n <= highest; n++) {
            DUE.is("told as " + n, as.applyAsInt(DUE.reads(ahead + n + behind, lines)), n);
        }
        DUE.is("zeros ahead", as.applyAsInt(DUE.reads(ahead + "00" + lowest + behind, lines)), lowest);
        DUE.is("zeros ahead", as.applyAsInt(DUE.reads(ahead + "0".repeat(40) + highest + behind, lines)), highest);
        if (lowest > 0) {
            DUE.faultAt(ahead + "^" + (lowest - 1) + behind, 2);
            DUE.faultAt(ahead + "^000" + behind, 2);
        }
        DUE.faultAt(ahead + "^" + (highest + 1) + behind, 2);
        DUE.faultAt(ahead + "^" + highest + "0" + behind, 2);
        for (String past : new String[] {"256", "65536", "4294967296", "18446744073709551616", "340282366920938463463374607431768211456"}) {
            DUE.faultAt(ahead + "^" + past + behind, 2);
            DUE.faultAt(ahead + "^" + past.substring(0, past.length() - 1) + (char) (past.charAt(past.length() - 1) + 1) + behind, 2);
        }
        DUE.faultAt(ahead + "^2147483647" + behind, 2);
        DUE.faultAt(ahead + "^2147483648" + behind, 2);
        DUE.faultAt(ahead + "^1000" + behind, 2);
        DUE.faultAt(ahead + "^1001" + behind, 2);
        DUE.faultAt(ahead + "^" + "9".repeat(300) + behind, 2);
        DUE.faultAt(ahead + "^-" + Math.max(1, lowest) + behind, 1);
        DUE.faultAt(ahead + "^+" + Math.max(1, lowest) + behind, 1);
    }

    private static void ranksAhead() {
        for (int ranks = 0; ranks <= 6; ranks++) {
            String ahead = HEAD + RANK.repeat(ranks);
            DUE.says("I", "on a RANK told ahead.");
            for (int on = 0; on < ranks; on++) {
                DUE.is("on", DUE.reads(ahead + "plank 9 on " + on + ";", ranks + 2).plank(0, 1), on);
            }
            DUE.faultAt(ahead + "plank 9 on ^" + ranks + ";", 2);
            DUE.faultAt(ahead + "plank 9 on ^4294967296;", 2);
            DUE.faultAt(ahead + "plank 9 on ^" + ranks + ";" + (ranks < 6 ? RANK : ""), 2);
            DUE.says("I", "invite: two unlike RANKS told ahead (the first one is to come to the other one),");
            for (int one = 0; one <= ranks; one++) {
                for (int two = 0; two <= ranks; two++) {
                    inviteOf(ahead, ranks, one, two);
                }
            }
            DUE.faultAt(ahead + "invite ^4294967296 4294967297 at 0;", 2);
            if (ranks > 0) {
                DUE.faultAt(ahead + "invite 0 ^4294967297 at 0;", 2);
                DUE.faultAt(ahead + "invite 0 ^00 at 0;", 2);
            }
        }
    }

    private static void inviteOf(String ahead, int ranks, int one, int two) {
        if (one == ranks) {
            DUE.faultAt(ahead + "invite ^" + one + " " + two + " at 0;", 2);
        } else if (two == ranks || one == two) {
            DUE.faultAt(ahead + "invite " + one + " ^" + two + " at 0;", 2);
        } else {
            MoatRanks x = DUE.reads(ahead + "invite " + one + " " + two + " at 0;", ranks + 2);
            DUE.is("who is to come", x.invite(0, 0), one);
            DUE.is("to whom", x.invite(0, 1), two);
        }
    }

    private static void asManyAsCanBe() {
        DUE.says("I", "RANKS 0 .. 5, PLANKS 0 .. 4, RAINS 0 .. 4, FROSTS 0 .. 3, INVITES 0 .. 7 are numbered as they stand.");
        MoatRanks x = DUE.reads(FULL, 29);
        int[] counts = {16, 0, 0, 6, 5, 5, 4, 8, 0, 29, 0, 0};
        for (int what = 0; what < counts.length; what++) {
            DUE.is("count(" + what + ")", x.count(what), counts[what]);
        }
        StringBuilder text = new StringBuilder(HEAD);
        for (int i = 0; i < 6; i++) {
            text.append("rank wide ").append(i + 1).append(" water ").append(10 * i).append(" drains ").append(i).append(" swims 0;");
        }
        for (int i = 0; i < 5; i++) {
            text.append("plank ").append(9 - i).append(" on ").append(5 - i).append(";");
        }
        for (int i = 0; i < 8; i++) {
            text.append("invite ").append(i % 6).append(" ").append((i + 1) % 6).append(" at ").append(15 - i).append(";");
        }
        x = DUE.reads(text.toString(), 20);
        for (int i = 0; i < 6; i++) {
            DUE.is("wide of " + i, x.rank(i, 0), i + 1);
            DUE.is("water of " + i, x.rank(i, 1), 10 * i);
        }
        for (int i = 0; i < 5; i++) {
            DUE.is("plank " + i, x.plank(i, 0), 9 - i);
            DUE.is("plank on " + i, x.plank(i, 1), 5 - i);
        }
        for (int i = 0; i < 8; i++) {
            DUE.is("invite " + i, x.invite(i, 0), i % 6);
            DUE.is("invite to " + i, x.invite(i, 1), (i + 1) % 6);
            DUE.is("invite at " + i, x.invite(i, 2), 15 - i);
        }
        DUE.says("TEXT", "3 a 7th rank, 6th plank, 6th rain, 5th frost, 9th invite, at its word.");
        String[] more = {"rank", "plank", "rain", "frost", "invite"};
        for (String word : more) {
            DUE.faultAt(FULL + "^" + word, 3);
            DUE.faultAt(FULL + " ^" + word + " !", 3);
            DUE.faultAt(FULL + "\n^" + word + " 0 0 0 0;", 3);
            DUE.faultAt(FULL + "^" + word + "s", 1);
        }
        DUE.faultAt(SIX + "^" + RANK, 3);
        DUE.faultAt(SIX + "plank 9 on 5;".repeat(5) + "^plank 9 on 5;", 3);
        DUE.faultAt(HEAD + "rain 40 at 15;".repeat(5) + "^rain 40 at 15;", 3);
        DUE.faultAt(HEAD + "frost at 15;".repeat(4) + "^frost at 15;", 3);
        DUE.faultAt(SIX + "invite 5 0 at 15;".repeat(8) + "^invite 5 0 at 15;", 3);
    }

    private static void tokens() {
        DUE.says("TEXT", "TOKENS, blanks (32, 10) aside, the longest: words (a .. z), numbers (digits), the sign ; .");
        String ahead = "dukedom years 5 law 1 odds 3";
        for (int b = 0; b < 256; b++) {
            char c = (char) b;
            boolean isLetter = c >= 'a' && c <= 'z';
            boolean isBlank = c == ' ' || c == '\n';
            DUE.faultAt(isLetter ? "^dukedom" + c : isBlank ? "dukedom" + c + "^" : "dukedom^" + c, 1);
            if (isBlank) {
                DUE.reads(ahead + c + ";", 1);
                DUE.reads(c + ahead + ";" + c, 1);
                DUE.faultAt("dukedom years 5 law 1 ^od" + c + "ds 3;", 1);
            } else if (c >= '0' && c <= '9') {
                DUE.faultAt("dukedom years 5 law 1 odds ^3" + c + ";", 2);
                DUE.faultAt("^" + c + ahead + ";", 1);
            } else if (isLetter) {
                DUE.faultAt(ahead + "^" + c + ";", 1);
                DUE.faultAt("^" + c + ahead + ";", 1);
            } else if (c == ';') {
                DUE.faultAt(ahead + c + "^;", 1);
                DUE.faultAt("^" + c + ahead + ";", 1);
            } else {
                DUE.faultAt(ahead + "^" + c + ";", 1);
                DUE.faultAt("^" + c + ahead + ";", 1);
                DUE.faultAt(ahead + ";^" + c, 1);
                DUE.faultAt("dukedom years^" + c + "5 law 1 odds 3;", 1);
            }
        }
        DUE.is("no blanks but where words meet", DUE.reads("dukedom years16law3odds10;rank wide9water99drains20swims30;", 2).rank(0, 3), 30);
        DUE.is("many blanks", DUE.reads("\n \n dukedom\n\n\nyears  16\nlaw 3 odds\n10\n;\n \n", 1).count(2), 10);
        DUE.faultAt("^dukedomyears 5 law 1 odds 3;", 1);
        DUE.faultAt("dukedom years ^1 6 law".replace("^1 6", "1 ^6"), 1);
        DUE.faultAt("dukedom years ^1616 law 0 odds 0;", 2);
    }

    private static void faults() {
        DUE.says("TEXT", "FAULTS, the first by its place (a TOKEN's first byte; the end's), of one place the least:");
        DUE.faultAt("dukedom years ^17 law 4 odds 11;!", 2);
        DUE.faultAt("dukedom years 1 law ^! odds 11;", 1);
        DUE.faultAt("dukedom ^17", 1);
        DUE.faultAt("dukedom years ^99999", 2);
        DUE.faultAt("dukedom years ^seventeen", 1);
        DUE.faultAt("dukedom^", 1);
        DUE.faultAt("dukedom \n ^", 1);
        DUE.faultAt(SIX + "plank ^rank", 1);
        DUE.faultAt(SIX + "^rank wide 0", 3);
        String end = "dukedom years 5 law 1 odds 3 ";
        DUE.faultAt(end + " ".repeat(900 - end.length()) + "^", 1);
        DUE.faultAt(end + " ".repeat(899 - end.length()) + "^!", 1);
        DUE.reads(end + " ".repeat(899 - end.length()) + ";", 1);
        DUE.says("TEXT", "1 a TOKEN that is none, or can't stand there (dukedom behind the first LINE, another word ahead of it).");
        DUE.faultAt("^duke years 5 law 1 odds 3;", 1);
        DUE.faultAt("^years 5", 1);
        DUE.faultAt("^16", 1);
        DUE.faultAt(HEAD + "^dukedom years 5 law 1 odds 3;", 1);
        DUE.faultAt(HEAD + RANK + "^dukedom", 1);
        DUE.faultAt(HEAD + "^wide 1", 1);
        DUE.faultAt(HEAD + "^1", 1);
        DUE.faultAt(HEAD + "^Rank", 1);
        DUE.says("TEXT", "2 a number out of its bounds, not as said.");
        DUE.faultAt("dukedom years ^0", 2);
        DUE.faultAt(HEAD + "plank 1 on ^0", 2);
        DUE.faultAt(HEAD + RANK + RANK + "invite 1 ^1", 2);
    }

    private static void dukedom() {
        DUE.says("4", "The TAPE (empty then) is the DUKEDOM (in place of another), nothing done:");
        MoatRanks x = Due.told(Texts.COURT);
        DUE.is("empty then", x.count(10), 0);
        x.digs(0, 9);
        x.adds(4, 1);
        x.dredge(0, 0);
        Due.feedText(x, Texts.COURT);
        DUE.is("the same once more", x.dukedom(), 18);
        DUE.is("empty then", x.count(10), 0);
        DUE.is("nothing done", x.count(8), 0);
        DUE.is("nothing to be taken back", x.undo(), -5);
        DUE.is("nothing dug", x.rank(0, 0), 2);
        DUE.is("keeps as told", x.keeps(), 73);
        Due.feedText(x, "dukedom years 1 law 0 odds 0;");
        DUE.is("in place of another", x.dukedom(), 1);
        int[] counts = {1, 0, 0, 0, 0, 0, 0, 0, 0, 1, 0, 0};
        for (int what = 0; what < counts.length; what++) {
            DUE.is("count(" + what + ")", x.count(what), counts[what]);
        }
        DUE.is("no rain of the other one", x.rains(), 0);
        DUE.is("no frost of the other one", x.frosts(), 0);
        x = new MoatRanks();
        for (int i = 0; i < 3; i++) {
            Due.feedText(x, Texts.COURT);
            x.dukedom();
            for (String text : new String[] {"dukedom years 5 law 0 odds 0;", "dukedom years 5 law 0 odds 0;", "", "", "dukedom years 5 law 0 odds 0;"}) {
                Due.feedText(x, text);
                DUE.is("in place of another", x.dukedom(), text.isEmpty() ? 0 : 1);
                DUE.is("rain is gone", x.rain(1), text.isEmpty() ? -2 : 0);
                DUE.is("frost is gone", x.frosts(), text.isEmpty() ? -2 : 0);
                for (int what = 0; what <= 11; what++) {
                    DUE.is("count(" + what + ")", x.count(what), text.isEmpty() ? 0 : what == 0 ? 5 : what == 9 ? 1 : 0);
                }
            }
        }
        DUE.says("4", "how many LINES (0: there is none then).");
        DUE.reads(FULL, 29);
        DUE.is("no text: there is none then", x.dukedom(), 0);
        DUE.is("none", x.frosts(), -2);
        DUE.is("no lines", x.count(9), 0);
        Due.feedText(x, HEAD);
        DUE.is("one", x.dukedom(), 1);
        Due.feedText(x, "\n \n");
        DUE.is("blanks", x.dukedom(), 0);
        DUE.is("empty then", x.count(10), 0);
        DUE.is("none", x.fair(), -2);
        DUE.says("4", "-4: a FAULT (all stays).");
        x = Due.told(Texts.COURT);
        x.digs(2, 2);
        x.adds(4, 1);
        x.row(2, 1, 3);
        Due.feedText(x, FULL + "rank");
        DUE.is("a fault at the very end", x.dukedom(), -4);
        int[] stay = {5, 1, 3, 3, 2, 3, 2, 7, 1, 18, FULL.length() + 4, 1};
        for (int what = 0; what < stay.length; what++) {
            DUE.is("stays: count(" + what + ")", x.count(what), stay[what]);
        }
        DUE.is("stays: what was dug", x.rank(2, 0), 2);
        DUE.is("stays: invites kept by the act", x.keeps(), 107);
        DUE.is("stays: rain", x.rain(1), 8);
        DUE.is("stays: frosts", x.frosts(), 4);
        DUE.is("stays: the tape, which has no fault without its last word", x.end(FULL.length()), FULL.length());
        DUE.is("read", x.dukedom(), 29);
    }

    private static void fault() {
        DUE.says("5", "Of the latest dukedom(), what 0: its FAULT, 0 without, 1: its place (NONE without).");
        MoatRanks x = new MoatRanks();
        String[] texts = {"!", "dukedom years 0", HEAD + "frost at 0;".repeat(5), HEAD, "", "x"};
        int[] faults = {1, 2, 3, 0, 0, 1};
        int[] places = {0, 14, HEAD.length() + 44, -1, -1, 0};
        for (int i = 0; i < texts.length; i++) {
            Due.feedText(x, texts[i]);
            x.dukedom();
            DUE.is("fault of " + texts[i], x.fault(0), faults[i]);
            DUE.is("place of " + texts[i], x.fault(1), places[i]);
            Due.feedText(x, "dukedom years 17");
            DUE.is("of the latest dukedom(), not of the tape", x.fault(0), faults[i]);
        }
        DUE.says("5", "NONE for another what, and ahead of any (what 1).");
        for (int what : FAR) {
            DUE.is("fault(" + what + ")", x.fault(what), -1);
        }
        DUE.is("fault(2)", x.fault(2), -1);
        x = new MoatRanks();
        DUE.is("ahead of any", x.fault(1), -1);
        DUE.is("ahead of any", x.fault(0), 0);
        DUE.is("fault(2) ahead of any", x.fault(2), -1);
        DUE.is("fault(-1) ahead of any", x.fault(-1), -1);
    }

    private static void told() {
        String text = HEAD + RANK.repeat(5) + "rank wide 9 water 99 drains 20 swims 30;" + "plank 1 on 0;".repeat(4) + "plank 9 on 5;"
                + "invite 0 1 at 0;".repeat(7) + "invite 5 4 at 15;";
        MoatRanks x = DUE.reads(text, 20);
        DUE.says("6", "Of a RANK as told, what 0: wide, 1: water, 2: drains, 3: swims.");
        int[] last = {9, 99, 20, 30};
        int[] first = {1, 0, 0, 0};
        x.dredge(5, 0);
        for (int what = 0; what < 4; what++) {
            DUE.is("the first rank's " + what, x.rank(0, what), first[what]);
            DUE.is("the last rank's " + what, x.rank(5, what), last[what]);
        }
        DUE.says("6", "-2: there are none such.");
        noneOf("rank", 6, 4, x::rank);
        DUE.says("7", "Of a PLANK, what 0: how long, 1: on whose moat as told.");
        x.adds(8, 3);
        DUE.is("the first plank", x.plank(0, 0), 1);
        DUE.is("on", x.plank(0, 1), 0);
        DUE.is("the last plank", x.plank(4, 0), 9);
        DUE.is("on", x.plank(4, 1), 5);
        DUE.says("7", "-2: there are none such.");
        noneOf("plank", 5, 2, x::plank);
        DUE.says("8", "Of an INVITE, what 0: who is to come, 1: to whom, 2: its YEAR.");
        int[] invites = {5, 4, 15};
        for (int what = 0; what < 3; what++) {
            DUE.is("the first invite's " + what, x.invite(0, what), what == 1 ? 1 : 0);
            DUE.is("the last invite's " + what, x.invite(7, what), invites[what]);
        }
        DUE.is("its year as told, though there is none", Due.told(text.replace("years 16", "years 1")).invite(7, 2), 15);
        DUE.says("8", "-2: there are none such.");
        noneOf("invite", 8, 3, x::invite);
        x = Due.told(HEAD + RANK);
        noneOf("rank of one", 1, 4, x::rank);
        noneOf("plank of none", 0, 2, x::plank);
        noneOf("invite of none", 0, 3, x::invite);
        DUE.is("the only rank", x.rank(0, 0), 1);
    }

    private interface Ask {
        int of(int n, int what);
    }

    private static void noneOf(String name, int there, int whats, Ask ask) {
        for (int what = 0; what < whats; what++) {
            DUE.is(name + "(" + there + ", " + what + ")", ask.of(there, what), -2);
            DUE.is(name + "(-1, " + what + ")", ask.of(-1, what), -2);
        }
        for (int far : FAR) {
            DUE.is(name + "(" + far + ", 0)", ask.of(far, 0), -2);
            DUE.is(name + "(0, " + far + ")", ask.of(0, far), -2);
        }
        DUE.is(name + "(0, " + whats + ")", ask.of(0, whats), -2);
    }

    private static void years() {
        DUE.says("I", "YEARS 0 .. years less 1.");
        for (int years = 1; years <= 16; years++) {
            MoatRanks x = DUE.reads("dukedom years " + years + " law 0 odds 0; rain 3 at " + (years - 1) + "; rain 4 at " + Math.min(15, years)
                    + "; frost at " + (years - 1) + "; frost at " + Math.min(15, years) + "; frost at 0;", 6);
            DUE.says("9", "RAIN of a YEAR.");
            DUE.is("the last year", x.rain(years - 1), years == 16 ? 7 : 3);
            DUE.is("the first year", x.rain(0), years == 1 ? 3 : 0);
            DUE.says("9", "-2: there is none such.");
            DUE.is("rain(years)", x.rain(years), -2);
            DUE.is("rain(-1)", x.rain(-1), -2);
            DUE.is("rain(16)", x.rain(16), -2);
            for (int far : FAR) {
                DUE.is("rain(" + far + ")", x.rain(far), -2);
            }
            DUE.says("10", "YEARS of FROST, as bits.");
            DUE.is("the first and the last one", x.frosts(), 1 | 1 << years - 1);
        }
        MoatRanks x = DUE.reads(HEAD + "rain 40 at 15;".repeat(5) + "frost at 15; frost at 15;", 8);
        DUE.is("all told, together", x.rain(15), 200);
        DUE.is("a frost twice", x.frosts(), 1 << 15);
        DUE.is("none", DUE.reads(HEAD, 1).frosts(), 0);
        DUE.says("10", "-2: there is no DUKEDOM.");
        DUE.is("none", new MoatRanks().frosts(), -2);
    }

    private static void counts() {
        DUE.says("71", "0 years, 1 LAW, 2 odds, 3 RANKS, 4 PLANKS told, 5 RAINS, 6 FROSTS told, 7 INVITES, 8 acts, 9 LINES, 10 bytes of the TAPE,"
                + " 11 SLOTS that have a row.");
        MoatRanks x = Due.told("dukedom years 1 law 3 odds 10;" + FULL.substring(HEAD.length()).replace("at 0", "at 15"));
        for (int i = 0; i < 30; i++) {
            x.adds(1, 0);
        }
        for (int i = 0; i < 45; i++) {
            x.feed(0, 0, 0, 0, 0);
        }
        for (int slot = 0; slot < 4; slot++) {
            x.row(slot, 0, 0);
        }
        int[] full = {1, 3, 10, 6, 5, 5, 4, 8, 30, 29, 900, 4};
        for (int what = 0; what < full.length; what++) {
            DUE.is("count(" + what + ")", x.count(what), full[what]);
        }
        DUE.says("71", "NONE for others.");
        DUE.is("count(12)", x.count(12), -1);
        DUE.is("count(-1)", x.count(-1), -1);
        for (int far : FAR) {
            DUE.is("count(" + far + ")", x.count(far), -1);
            DUE.is("count(" + far + ") of a new object", new MoatRanks().count(far), -1);
        }
    }
}

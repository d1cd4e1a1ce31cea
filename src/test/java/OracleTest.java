import java.lang.reflect.Method;
import java.lang.reflect.Modifier;
import java.nio.charset.StandardCharsets;
import java.util.ArrayList;
import java.util.Comparator;
import java.util.List;
import java.util.Random;

/** Runs of calls drawn from fixed seeds, each call answered by the class and by the Oracle. */
public final class OracleTest {
    private static final int RUNS = 400;
    private static final int CALLS = 240;

    private final Due due = new Due("OracleTest");
    private final List<Method> asked = new ArrayList<>();
    private final List<Method> answered = new ArrayList<>();
    private Random random;
    private MoatRanks x;
    private Oracle o;
    private int ranks, years;

    public static void main(String[] args) throws Exception {
        OracleTest test = new OracleTest();
        test.findMethods();
        for (int run = 0; run < RUNS; run++) {
            test.run(run);
        }
        test.due.close();
    }

    private void findMethods() throws Exception {
        List<Method> all = new ArrayList<>();
        for (Method m : MoatRanks.class.getDeclaredMethods()) {
            if (Modifier.isPublic(m.getModifiers())) {
                all.add(m);
            }
        }
        all.sort(Comparator.comparing(Method::getName));
        for (Method m : all) {
            asked.add(m);
            answered.add(Oracle.class.getMethod(m.getName(), m.getParameterTypes()));
        }
    }

    private void run(int seed) throws Exception {
        random = new Random(seed);
        x = new MoatRanks();
        o = new Oracle();
        if (random.nextInt(20) != 0) {
            tellNew();
        }
        for (int i = 0; i < CALLS; i++) {
            int kind = random.nextInt(100);
            if (kind == 0) {
                tellNew();
            } else if (kind < 3) {
                tellSeen();
            } else {
                callAny();
            }
        }
    }

    private int upTo(int n) {
        return random.nextInt(n + 1);
    }

    private void call(int which, Object... args) throws Exception {
        long got = ((Number) asked.get(which).invoke(x, args)).longValue();
        long want = ((Number) answered.get(which).invoke(o, args)).longValue();
        due.is(asked.get(which).getName() + List.of(args), got, want);
    }

    private void call(String name, Object... args) throws Exception {
        for (int i = 0; i < asked.size(); i++) {
            if (asked.get(i).getName().equals(name)) {
                call(i, args);
            }
        }
    }

    private void callAny() throws Exception {
        int which = random.nextInt(asked.size());
        Method m = asked.get(which);
        Class<?>[] types = m.getParameterTypes();
        Object[] args = new Object[types.length];
        for (int i = 0; i < args.length; i++) {
            int n = argument(m.getName(), i);
            if (types[i] == long.class) {
                args[i] = random.nextInt(8) == 0 ? random.nextLong() : (long) n;
            } else {
                args[i] = n;
            }
        }
        // a tape that grows by chance would seldom be a text again
        if (m.getName().equals("dukedom") && random.nextInt(4) != 0) {
            tellNew();
        } else {
            call(which, args);
        }
    }

    private int argument(String name, int i) {
        if (random.nextInt(60) == 0) {
            int[] odd = {Integer.MIN_VALUE, Integer.MAX_VALUE, -1, -2, 99, 100, 2000000000, 2000000001, 31, 32, 64};
            return odd[random.nextInt(odd.length)];
        }
        switch (name) {
            case "end":
                return upTo(60);
            case "feed":
                return random.nextInt();
            case "drawn":
            case "luck":
                return i == 0 ? random.nextInt(2000000002) : name.equals("drawn") ? upTo(2) - random.nextInt(2) : upTo(i == 1 ? 21 : 8);
            case "worth":
                return upTo(1 << ranks);
            case "adds":
                return i == 0 ? upTo(10) : upTo(ranks);
            case "digs":
                return i == 1 ? upTo(10) : upTo(ranks);
            case "count":
                return upTo(12);
            case "row":
                return i == 2 ? upTo(62) - 1 : upTo(4);
            case "write":
                return i == 0 ? upTo(4) : i == 1 ? upTo(60) : upTo(300) - 40;
            case "paste":
                return i == 0 || i == 2 ? upTo(4) : upTo(30) - 1;
            case "gets":
                return i < 2 ? upTo(ranks) : upTo(20) == 0 ? 2 : upTo(1);
            case "rank":
            case "plank":
            case "invite":
                return i == 0 ? upTo(8) : upTo(4);
            case "kept":
            case "hinders":
            case "lay":
                return upTo(8);
            case "chance":
                return i < 2 ? upTo(ranks) : i == 2 ? Math.min(upTo(9), upTo(years)) : upTo(12) == 0 ? 2 : upTo(1);
            case "mean":
                return i == 0 ? upTo(ranks) : i == 1 ? Math.min(upTo(9), upTo(years)) : upTo(12) == 0 ? 2 : upTo(1);
            case "by":
            case "image":
            case "back":
                return upTo(4);
            case "waters":
            case "least":
            case "greatest":
            case "ask":
            case "leaves":
            case "laws":
                return i == 0 ? upTo(3) : upTo(ranks);
            case "rain":
            case "lost":
            case "all":
            case "dry":
            case "deepest":
            case "friends":
            case "shut":
            case "widest":
                return upTo(years);
            default:
                // rank, year or rank, other, year
                boolean year = i == 2 || i == 1 && !name.equals("over") && !name.equals("news") && !name.equals("first")
                        && !name.equals("often") && !name.equals("rests") && !name.equals("share");
                return year ? upTo(years) : name.equals("share") && i == 1 ? upTo(2) : upTo(ranks);
        }
    }

    /** Fills a slot with what is seen in fact, one time in three with a number that may be wrong. */
    private void tellSeen() throws Exception {
        if (ranks == 0 || years == 0) {
            return;
        }
        int slot = upTo(3);
        int n = upTo(4);
        call("row", slot, upTo(3), 3 * n);
        for (int i = 0; i < n; i++) {
            int rank = random.nextInt(ranks);
            int year = random.nextInt(years);
            int water = random.nextInt(3) != 0 ? Math.max(0, o.water(rank, year)) : random.nextInt(30);
            call("write", slot, 3 * i, (long) rank);
            call("write", slot, 3 * i + 1, (long) year);
            call("write", slot, 3 * i + 2, (long) water);
        }
        int rank = random.nextInt(ranks);
        for (String name : new String[] {"waters", "least", "greatest", "ask", "leaves"}) {
            call(name, slot, rank);
        }
        call("laws", slot);
    }

    private void tellNew() throws Exception {
        String text = text();
        if (random.nextInt(3) == 0) {
            text = spoilt(text);
        }
        byte[] bytes = text.getBytes(StandardCharsets.ISO_8859_1);
        if (random.nextInt(12) != 0) {
            call("end", 0);
        }
        for (int at = 0; at < bytes.length; at += 20) {
            call("feed", Due.four(bytes, at), Due.four(bytes, at + 4), Due.four(bytes, at + 8), Due.four(bytes, at + 12),
                    Due.four(bytes, at + 16));
        }
        call("end", bytes.length);
        call("dukedom");
        call("fault", 0);
        call("fault", 1);
        call("count", 9);
        call("count", 10);
        ranks = o.count(3);
        years = o.count(0);
    }

    private String blank() {
        String[] all = {" ", " ", " ", "\n", "  ", "\n "};
        return all[random.nextInt(all.length)];
    }

    private String text() {
        StringBuilder s = new StringBuilder();
        if (random.nextInt(30) == 0) {
            return random.nextBoolean() ? "" : " \n ";
        }
        int wide = random.nextInt(3) == 0 ? 9 : 3;
        s.append("dukedom years ").append(1 + random.nextInt(random.nextBoolean() ? 16 : 6)).append(" law ").append(upTo(3))
                .append(" odds ").append(upTo(10)).append(blank()).append(";");
        int told = Math.min(6, upTo(7));
        for (int i = 0; i < told; i++) {
            s.append(blank()).append("rank wide ").append(1 + random.nextInt(wide)).append(" water ")
                    .append(upTo(random.nextBoolean() ? 99 : 25)).append(" drains ").append(upTo(random.nextBoolean() ? 20 : 3))
                    .append(blank()).append("swims ").append(upTo(random.nextBoolean() ? 30 : 8)).append(" ;");
        }
        int lines = upTo(22);
        int[] room = {5, 5, 4, 8};
        for (int i = 0; i < lines; i++) {
            int kind = random.nextInt(4);
            if (room[kind]-- <= 0) {
                continue;
            }
            int at = random.nextInt(3) == 0 ? upTo(15) : upTo(4);
            if (kind == 0 && told > 0) {
                s.append(blank()).append("plank ").append(1 + random.nextInt(wide)).append(" on ").append(random.nextInt(told)).append(";");
            } else if (kind == 1) {
                s.append("rain ").append(1 + random.nextInt(40)).append(" at ").append(at).append(blank()).append(";");
            } else if (kind == 2) {
                s.append("frost at ").append(at).append(";");
            } else if (kind == 3 && told > 1) {
                int guest = random.nextInt(told);
                int host = (guest + 1 + random.nextInt(told - 1)) % told;
                s.append("invite ").append(guest).append(" ").append(host).append(" at ").append(at).append(" ;");
            }
        }
        return s.toString();
    }

    /** A text with one thing wrong, or none if chance wants it. */
    private String spoilt(String text) {
        if (text.isEmpty()) {
            return ";";
        }
        int at = random.nextInt(text.length());
        switch (random.nextInt(6)) {
            case 0:
                return text.substring(0, at);
            case 1:
                return text.substring(0, at) + text.substring(at + 1);
            case 2:
                String signs = "09a;z -A\t\u00e9{/:`5\n";
                return text.substring(0, at) + signs.charAt(random.nextInt(signs.length())) + text.substring(at + 1);
            case 3:
                String[] words = {"rank", "dukedom", "0", "100", " 9 ", ";", "4294967297", "17", "00"};
                return text.substring(0, at) + words[random.nextInt(words.length)] + text.substring(at);
            case 4:
                String[] lines = {
                    "rank wide 1 water 1 drains 1 swims 1;", "plank 1 on 0;", "rain 1 at 1;", "frost at 1;", "invite 0 1 at 1;", "invite 1 1 at 0;"
                };
                String line = lines[random.nextInt(lines.length)];
                StringBuilder more = new StringBuilder(text);
                for (int i = upTo(9); i >= 0 && more.length() < 860; i--) {
                    more.append(line);
                }
                return more.toString();
            default:
                return text.substring(at);
        }
    }
}

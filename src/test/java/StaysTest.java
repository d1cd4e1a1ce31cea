import java.lang.reflect.Method;
import java.lang.reflect.Modifier;
import java.util.ArrayList;
import java.util.Arrays;
import java.util.Comparator;
import java.util.List;
import java.util.Set;
import java.util.function.Supplier;

/**
 * A refused call changes nothing, and neither does one that asks: behind each, with arguments on both sides of every
 * bound and far away, an object tells all (State) as one on which it was not called.
 */
public final class StaysTest {
    private static final Due DUE = new Due("StaysTest");
    private static final Set<String> CHANGING = Set.of("feed", "end", "dukedom", "adds", "dredge", "undo", "anew", "digs", "image", "back", "row",
            "write", "paste");
    /** So many calls that only ask are looked at together; an object is good for 512. */
    private static final int BATCH = 50;
    private static final int[] EDGES = {Integer.MIN_VALUE, -1, 0, 1, 2, 3, 4, 5, 6, 7, 8, 9, 10, 15, 16, 20, 21, 60, 61, 63, 64, 900, 901,
        2000000000, 2000000001, Integer.MAX_VALUE};

    private static final String FAULTY = "dukedom years 7 law 1 odds 3; rank wide 2 water 7 drains 7 swims 77;";

    private static final List<Supplier<MoatRanks>> MAKERS = List.of(MoatRanks::new, StaysTest::noRanks, StaysTest::rich, StaysTest::full);

    private static int stayed = 0;

    public static void main(String[] args) throws Exception {
        for (Supplier<MoatRanks> maker : MAKERS) {
            List<Long> before = State.of(maker);
            DUE.is("made alike", State.of(maker).equals(before) ? 1 : 0, 1);
            for (Method m : methods()) {
                if (CHANGING.contains(m.getName())) {
                    refused(maker, before, m);
                } else {
                    asked(maker, before, m);
                }
            }
        }
        System.out.println("StaysTest: behind " + stayed + " calls all stayed as it was");
        DUE.close();
    }

    private static List<Method> methods() {
        List<Method> found = new ArrayList<>();
        for (Method m : MoatRanks.class.getDeclaredMethods()) {
            if (Modifier.isPublic(m.getModifiers())) {
                found.add(m);
            }
        }
        found.sort(Comparator.comparing(Method::getName));
        return found;
    }

    private static MoatRanks noRanks() {
        MoatRanks x = Due.told("dukedom years 3 law 1 odds 5; rain 2 at 1; frost at 2;");
        x.row(0, 2, 0);
        x.image(1);
        Due.feedText(x, "dukedom years 9 law 0 odds 0;");
        return x;
    }

    private static MoatRanks rich() {
        MoatRanks x = Due.told("dukedom years 2 law 0 odds 1; rank wide 3 water 9 drains 0 swims 4; rank wide 1 water 2 drains 1 swims 9;"
                + "plank 3 on 0; invite 0 1 at 1; invite 1 0 at 0;");
        x.dredge(0, 1);
        x.image(0);
        Due.feedText(x, Texts.COURT);
        x.dukedom();
        // a text with a fault, read here and not read below: so reading it there changes not even what fault() tells
        Due.feedText(x, FAULTY);
        x.dukedom();
        x.digs(2, 3);
        x.adds(4, 1);
        x.dredge(2, 0);
        x.adds(1, 0);
        x.image(2);
        x.undo();
        x.row(0, 0, 6);
        long[] seen = {0, 0, 9, 1, 1, 20};
        for (int i = 0; i < seen.length; i++) {
            x.write(0, i, seen[i]);
        }
        x.row(1, 3, 60);
        x.write(1, 59, 77);
        x.row(2, 0, 4);
        x.write(2, 3, 99);
        Due.feedText(x, FAULTY);
        return x;
    }

    private static MoatRanks full() {
        MoatRanks x = Due.told("dukedom years 16 law 2 odds 6;" + "rank wide 3 water 50 drains 2 swims 6; rank wide 2 water 5 drains 1 swims 9;".repeat(3)
                + "plank 3 on 0; plank 2 on 1; plank 1 on 2; plank 9 on 5; plank 3 on 5;" + "rain 9 at 3; rain 20 at 15;".repeat(2) + "rain 1 at 8;"
                + "frost at 7; frost at 0; frost at 15; frost at 7;" + "invite 5 0 at 4; invite 0 5 at 15; invite 2 3 at 9; invite 3 1 at 2;".repeat(2));
        for (int i = 0; i < 14; i++) {
            x.dredge(i % 6, i);
            x.adds(1, i % 4);
        }
        x.dredge(4, 9);
        x.adds(3, 4);
        for (int k = 0; k < 3; k++) {
            x.image(k);
        }
        for (int slot = 0; slot < 4; slot++) {
            x.row(slot, slot, 3);
            x.write(slot, 2, 5 + slot);
        }
        for (int i = 0; i < 45; i++) {
            x.feed(0x20202020, 0x20202020, 0x20202020, 0x20202020, 0x2020203b);
        }
        x.dukedom();
        return x;
    }

    /** Good ones, with each in turn in place of one of them; and all of them out of place. */
    private static List<int[]> arguments(Method m) {
        int n = m.getParameterCount();
        int[] good = new int[n];
        switch (m.getName()) {
            case "first":
            case "often":
            case "rests":
            case "gets":
            case "chance":
            case "luck":
            case "digs":
            case "over":
            case "news":
                good[1] = 1;
                break;
            case "adds":
                good[0] = 1;
                break;
            case "row":
                good[2] = 3;
                break;
            default:
                break;
        }
        List<int[]> found = new ArrayList<>();
        found.add(good);
        for (int i = 0; i < n; i++) {
            for (int edge : EDGES) {
                int[] a = good.clone();
                a[i] = edge;
                found.add(a);
            }
        }
        int[] bad = new int[n];
        Arrays.fill(bad, -1);
        found.add(bad);
        return found;
    }

    private static long call(MoatRanks x, Method m, int[] a) {
        Class<?>[] types = m.getParameterTypes();
        Object[] args = new Object[a.length];
        for (int i = 0; i < a.length; i++) {
            args[i] = types[i] == long.class ? (Object) (long) a[i] : (Object) a[i];
        }
        try {
            return ((Number) m.invoke(x, args)).longValue();
        } catch (ReflectiveOperationException e) {
            throw new IllegalStateException(m + Arrays.toString(a), e);
        }
    }

    private static void refused(Supplier<MoatRanks> maker, List<Long> before, Method m) {
        for (int[] a : arguments(m)) {
            if (call(maker.get(), m, a) < 0) {
                look(maker, before, m, List.of(a));
            }
        }
    }

    private static void asked(Supplier<MoatRanks> maker, List<Long> before, Method m) {
        List<int[]> all = arguments(m);
        for (int from = 0; from < all.size(); from += BATCH) {
            look(maker, before, m, all.subList(from, Math.min(all.size(), from + BATCH)));
        }
    }

    private static void look(Supplier<MoatRanks> maker, List<Long> before, Method m, List<int[]> calls) {
        stayed += calls.size();
        List<Long> behind = State.of(() -> {
            MoatRanks x = maker.get();
            calls.forEach(a -> call(x, m, a));
            return x;
        });
        String first = m.getName() + Arrays.toString(calls.get(0));
        DUE.is("all stays behind " + first + " and " + (calls.size() - 1) + " calls more", behind.equals(before) ? 1 : 0, 1);
    }
}

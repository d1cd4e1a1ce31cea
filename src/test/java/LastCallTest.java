import java.lang.reflect.Method;
import java.lang.reflect.Modifier;
import java.util.ArrayList;
import java.util.Comparator;
import java.util.List;
import java.util.Random;

/** An object's 512th call is answered as an early one is; later ones may answer anything, but don't throw. */
public final class LastCallTest {
    private static final Due DUE = new Due("LastCallTest");
    private static final int LAST = 512;
    private static final int ROUND = 19;
    private static final int LATER_CALLS = 100_000;
    /** Small ones, so that each is such for most calls. */
    private static final int[][] ARGUMENTS = {{0, 1, 0, 1, 0}, {1, 0, 1, 0, 1}, {2, 1, 1, 1, 1}, {0, 0, 3, 1, 1}, {7, 7, 7, 7, 7}};

    public static void main(String[] args) throws Exception {
        DUE.says("USE", "An object is used for at most 512 calls after it has been made; what later calls answer is free.");
        for (Method m : methods()) {
            for (int[] given : ARGUMENTS) {
                String call = m.getName() + List.of(given[0], given[1], given[2], given[3], given[4]).subList(0, m.getParameterCount());
                long early = call(made(new int[1]), m, given);
                DUE.is("as call " + LAST + ": " + call, call(worn(), m, given), early);
            }
        }
        later();
        DUE.close();
    }

    private static List<Method> methods() {
        List<Method> found = new ArrayList<>();
        for (Method m : MoatRanks.class.getDeclaredMethods()) {
            if (Modifier.isPublic(m.getModifiers())) {
                found.add(m);
            }
        }
        found.sort(Comparator.comparing(Method::getName));
        return found;
    }

    private static long call(MoatRanks x, Method m, int[] numbers) throws Exception {
        Object[] given = new Object[m.getParameterCount()];
        for (int i = 0; i < given.length; i++) {
            given[i] = m.getParameterTypes()[i] == long.class ? (Object) (long) numbers[i] : (Object) numbers[i];
        }
        return ((Number) m.invoke(x, given)).longValue();
    }

    private static MoatRanks made(int[] calls) {
        MoatRanks x = new MoatRanks();
        Due.feedText(x, Texts.COURT);
        x.dukedom();
        calls[0] = 2 + (Texts.COURT.length() + 19) / 20 + 1;
        long[] seen = {0, 1, 10};
        x.row(0, 0, 3);
        x.row(1, 0, 60);
        for (int i = 0; i < seen.length; i++) {
            x.write(0, i, seen[i]);
        }
        x.adds(4, 1);
        x.dredge(0, 3);
        x.image(1);
        x.undo();
        x.image(2);
        calls[0] += 10;
        return x;
    }

    /** One made alike, with 511 calls behind it that leave all as it was. */
    private static MoatRanks worn() {
        int[] calls = new int[1];
        MoatRanks x = made(calls);
        for (; calls[0] + ROUND < LAST; calls[0] += ROUND) {
            round(x);
        }
        for (; calls[0] < LAST - 1; calls[0]++) {
            x.keeps();
        }
        return x;
    }

    private static void round(MoatRanks x) {
        x.adds(9, 2);
        x.dredge(1, 1);
        x.undo();
        x.undo();
        x.image(2);
        x.anew();
        x.digs(0, 9);
        x.back(2);
        x.back(1);
        x.back(2);
        x.feed(1, 2, 3, 4, 5);
        x.end(0);
        x.waters(0, 0);
        x.best();
        x.drain(1);
        x.chance(0, 1, 4, 0);
        x.luck(9, 20, 1);
        x.by(2);
        x.laws(0);
    }

    private static void later() throws Exception {
        Random random = new Random(512);
        MoatRanks x = worn();
        List<Method> methods = methods();
        for (int i = 0; i < LATER_CALLS; i++) {
            Method m = methods.get(random.nextInt(methods.size()));
            int[] given = new int[5];
            for (int k = 0; k < given.length; k++) {
                given[k] = random.nextInt(12) == 0 ? random.nextInt() : random.nextInt(10) - 1;
            }
            call(x, m, given);
            if (i % 1000 == 0) {
                Due.feedText(x, Texts.COURT);
                x.dukedom();
            }
        }
        DUE.is("calls later, none of which threw", LATER_CALLS, LATER_CALLS);
    }
}

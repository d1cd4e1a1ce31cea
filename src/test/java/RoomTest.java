import com.sun.management.ThreadMXBean;
import java.lang.management.ManagementFactory;

/** All calls of a run live in one room: an object is small, and its calls make nothing. */
public final class RoomTest {
    private static final Due DUE = new Due("RoomTest");
    private static final String FULL = "dukedom years 16 law 1 odds 5;" + "rank wide 3 water 50 drains 5 swims 6;".repeat(6)
            + "plank 3 on 0;".repeat(5) + "rain 9 at 3;".repeat(5) + "frost at 7;".repeat(4) + "invite 5 0 at 4;".repeat(8);

    private static long sink = 0;

    public static void main(String[] args) {
        ThreadMXBean bean = (ThreadMXBean) ManagementFactory.getThreadMXBean();
        long id = Thread.currentThread().getId();
        MoatRanks x = null;
        long object = 0;
        long calls = 0;
        // the first rounds load classes, which makes things of the machine's own
        for (int round = 0; round < 5; round++) {
            long before = bean.getThreadAllocatedBytes(id);
            x = new MoatRanks();
            object = bean.getThreadAllocatedBytes(id) - before;
            Due.feedText(x, FULL);
            before = bean.getThreadAllocatedBytes(id);
            x.dukedom();
            callAll(x);
            calls = bean.getThreadAllocatedBytes(id) - before;
        }
        System.out.println("RoomTest: an object takes " + object + " bytes, its calls take " + calls);
        DUE.is("an object takes at most 40,000 bytes: " + object, object <= 40_000 ? 1 : 0, 1);
        DUE.is("calls take none, but for the bean's own: " + calls, calls <= 200 ? 1 : 0, 1);
        DUE.close();
    }

    private static void callAll(MoatRanks x) {
        for (int i = 0; i < 4; i++) {
            x.row(i, i, 60);
            x.write(i, 5, 7);
            x.paste(i, 0, i, 3, 57);
            x.row(i, i, 3);
            sink += x.waters(i, i) + x.least(i, i) + x.greatest(i, i) + x.ask(i, i) + x.leaves(i, i) + x.laws(i);
            sink += x.best() + x.lay(i) + x.ways() + x.fills() + x.filled() + x.path() + x.drain(i) + x.learns(i) + x.by(i) + x.law();
            sink += x.worth(i) + x.share(i, 0) + x.rests(i, 5) + x.gets(i, 5, 1, 1) + x.chance(i, 5, 7, 0) + x.mean(i, 7, 1);
            sink += x.adds(i, i) + x.dredge(i, i) + x.undo() + x.drawn(i, 1) + x.luck(i, 20, i) + x.image(i) + x.back(i);
            sink += x.water(i, i) + x.over(i, i, i) + x.news(i, 5, i) + x.widest(i) + x.friends(i) + x.fair() + x.lone() + x.idle();
            sink += x.anew() + x.digs(i, 5) + x.flood() + x.host() + x.keeps() + x.count(11) + x.hosts(i) + x.goes(i) + x.hinders(i);
        }
    }
}

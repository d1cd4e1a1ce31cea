import java.util.ArrayList;
import java.util.List;
import java.util.function.Supplier;

/**
 * All that calls can tell of an object, as one list of answers: what is told, worked out and supposed, acts one by one,
 * images, the tape, and the numbers of the slots. An object is good for 512 calls, so many alike are asked a part each.
 */
final class State {
    private static final String PLAIN = "dukedom years 16 law 0 odds 0; rank wide 9 water 0 drains 0 swims 0;";
    private static final int MOST_CALLS = 280;

    private final Supplier<MoatRanks> maker;
    private final List<Long> answers = new ArrayList<>();
    private MoatRanks x;
    private int calls;

    private State(Supplier<MoatRanks> maker) {
        this.maker = maker;
    }

    static List<Long> of(Supplier<MoatRanks> maker) {
        State state = new State(maker);
        state.told();
        state.byRankAndYear();
        state.byYear();
        state.invites();
        state.supposed();
        state.acts();
        state.images();
        state.tape();
        for (int slot = 0; slot < 4; slot++) {
            state.slot(slot);
        }
        return state.answers;
    }

    /** From here on another object, made alike, is asked. */
    private void another() {
        x = maker.get();
        calls = 0;
    }

    /** The same, if what was asked so far has changed nothing but used the object up. */
    private void anotherSoon() {
        if (calls > MOST_CALLS) {
            another();
        }
    }

    private void is(long... told) {
        for (long answer : told) {
            answers.add(answer);
        }
        calls += told.length;
    }

    private void told() {
        another();
        for (int what = -1; what <= 12; what++) {
            is(x.count(what), x.fault(what));
        }
        for (int i = 0; i < 8; i++) {
            for (int what = 0; what < 4; what++) {
                is(x.rank(i, what), x.plank(i, what), x.invite(i, what));
            }
        }
        is(x.frosts(), x.rains(), x.flood(), x.lone(), x.fair());
        for (int rank = 0; rank < 6; rank++) {
            is(x.most(rank), x.dries(rank), x.wet(rank));
        }
    }

    private void byRankAndYear() {
        for (int year = 0; year < 16; year++) {
            for (int rank = 0; rank < 6; rank++) {
                anotherSoon();
                is(x.water(rank, year), x.spills(rank, year), x.drained(rank, year), x.fords(rank, year), x.comes(rank, year));
            }
        }
    }

    private void byYear() {
        for (int year = 0; year < 16; year++) {
            anotherSoon();
            is(x.rain(year), x.lost(year), x.all(year), x.dry(year), x.deepest(year), x.friends(year), x.shut(year), x.widest(year));
            is(x.guests(year % 6, year), x.news(0, 1, year), x.news(2, 0, year), x.over(1, 0, year));
        }
    }

    private void invites() {
        another();
        for (int invite = 0; invite < 8; invite++) {
            is(x.kept(invite), x.hinders(invite));
        }
        is(x.keeps(), x.host(), x.idle(), x.best(), x.ways(), x.fills(), x.filled(), x.path(), x.law());
        for (int i = 0; i < 6; i++) {
            is(x.hosts(i), x.goes(i), x.lay(i), x.drain(i), x.learns(i), x.by(i), x.share(i, 0), x.share(i, 1), x.worth(1 << i), x.worth(63 >> i));
            for (int other = 0; other < 6; other++) {
                is(x.first(i, other), x.often(i, other), x.rests(i, other), x.gets(i, other, 1, 0), x.gets(i, other, 1, 1));
            }
        }
    }

    private void supposed() {
        another();
        is(x.chance(0, 1, 0, 0), x.chance(1, 0, 4, 0), x.chance(1, 0, 4, 1), x.mean(0, 4, 0), x.mean(1, 2, 0), x.mean(1, 2, 1));
        is(x.drawn(0, 0), x.drawn(0, 1), x.drawn(12345, 0), x.drawn(12345, 1), x.luck(7, 9, 0), x.luck(7, 9, 3));
        for (int slot = 0; slot < 4; slot++) {
            is(x.laws(slot), x.waters(slot, 0), x.least(slot, 1), x.greatest(slot, 1), x.ask(slot, 0), x.leaves(slot, 0));
        }
    }

    private void acts() {
        another();
        for (int i = 0; i < 32; i++) {
            is(x.keeps(), x.count(8), x.fords(0, 0), x.dry(0), x.all(3));
            is(x.undo());
        }
        is(x.anew());
        // gone back to at once: what is kept of acts, worked out anew
        another();
        is(x.image(0), x.back(0), x.count(8), x.keeps());
        for (int rank = 0; rank < 6; rank++) {
            is(x.rank(rank, 0), x.fords(rank, 0), x.fords(rank, 1), x.fords(rank, 5), x.fords(rank, 12), x.most(rank), x.wet(rank), x.dries(rank));
        }
    }

    private void images() {
        for (int k = 0; k < 3; k++) {
            another();
            is(x.back(k));
            for (int i = 0; i < 32; i++) {
                is(x.keeps(), x.count(8), x.fords(0, 0), x.all(0), x.undo());
            }
            for (int i = 0; i < 8; i++) {
                is(x.rank(i, 0), x.rank(i, 1), x.rank(i, 2), x.rank(i, 3), x.plank(i, 0), x.plank(i, 1), x.invite(i, 0), x.invite(i, 1), x.rain(i));
                is(x.count(i), x.invite(i, 2), x.rain(i + 8), x.water(1, i), x.water(2, i + 8));
            }
            is(x.frosts(), x.count(9), x.lone());
        }
    }

    private void tape() {
        another();
        is(x.count(10), x.dukedom(), x.fault(0), x.fault(1), x.count(10));
        for (int i = 0; i < 10; i++) {
            is(x.count(i), x.rank(i, 0), x.rank(i, 1), x.plank(i, 0), x.invite(i, 2), x.rain(i));
        }
        another();
        is(x.feed(0x21212121, 0, 0, 0, 0), x.dukedom(), x.fault(0), x.fault(1));
    }

    private void slot(int slot) {
        another();
        for (int i = -1; i <= 60; i++) {
            is(x.write(slot, i, 0));
        }
        int other = (slot + 1) % 4;
        int width = -1;
        another();
        for (int w = 0; w < 4; w++) {
            x.row(other, w, 3);
            int answer = x.paste(slot, 0, other, 0, 0);
            is(answer);
            width = answer == 0 ? w : width;
        }
        if (width < 0) {
            return;
        }
        another();
        Due.feedText(x, PLAIN);
        x.dukedom();
        for (int i = 0; i < 60; i++) {
            x.row(other, width, 3);
            is(x.paste(slot, i, other, 2, 1), x.greatest(other, 0));
        }
    }
}

import com.sun.management.ThreadMXBean;
import java.lang.management.ManagementFactory;
import java.util.function.Consumer;

/**
 * All calls of one run live in one room of some 600,000 objects and arrays with 7.3 million fields and elements: an
 * object that is used for its 512 calls, the dearest of each sort in a full county, takes an eighth of it at most.
 */
public final class RoomTest {
    private static final int CALLS = 480;
    private static final long MOST_BYTES = 7_300_000L * 4 / 8;

    private final Due due = new Due();
    private final ThreadMXBean counter = (ThreadMXBean) ManagementFactory.getThreadMXBean();

    public static void main(String[] args) {
        RoomTest test = new RoomTest();
        test.texts();
        test.whatIsSo();
        test.deeds();
        test.whatWouldBe();
        test.letters();
        test.due.end();
    }

    private void room(String name, Consumer<AbsentLords> call) {
        long ahead = counter.getCurrentThreadAllocatedBytes();
        AbsentLords x = Busy.withoutTape();
        for (int i = 0; i < CALLS; i++) {
            call.accept(x);
        }
        long taken = counter.getCurrentThreadAllocatedBytes() - ahead;
        due.is(CALLS + " times " + name + " take " + taken + " bytes, less than an eighth", taken < MOST_BYTES, true);
    }

    private void texts() {
        room("feed", x -> x.feed(0, 0, 0, 0, 0));
        room("feed and read", x -> {
            x.feed(0x676f6573, 0x3d312b32, 0x2a332f34, 0x2d352b36, 0x2b37383b);
            x.read();
        });
    }

    private void whatIsSo() {
        room("house", x -> x.house(0, 3));
        room("person", x -> x.person(6, 8));
        room("count", x -> x.count(15));
    }

    private void deeds() {
        room("send and call", x -> {
            x.send(6);
            x.call(6);
        });
        room("give", x -> x.give(6, 0, x.count(12) < 12));
        room("years", x -> x.years(40));
        room("bury and undo", x -> {
            x.bury(6);
            x.undo();
        });
        room("hold and restore", x -> {
            x.hold(1);
            x.restore(1);
        });
    }

    private void whatWouldBe() {
        room("gain", x -> x.gain(1, 40));
        room("best", x -> x.best(6, 40, 1));
        room("loss", x -> x.loss(1, 40));
        room("rest", x -> x.rest(5, 6, 40));
        room("fill", x -> x.fill(1));
        room("agents", x -> x.agents(1));
        room("lords", x -> x.lords(4));
        room("bound", x -> x.bound(6));
        room("gotIn", x -> x.gotIn(6, 40));
        room("year", x -> x.year(6, 40, 20));
    }

    private void letters() {
        room("tell and forget", x -> {
            x.tell(5, 6);
            x.forget();
        });
        room("orders", x -> x.orders(3));
        room("last", x -> x.last(3, 0));
        room("before", x -> x.before(3, 0, 6));
        room("sum", x -> x.sum(3, 6));
        room("ahead", x -> x.ahead(3, 6));
        room("foremost", x -> x.foremost(3));
        room("ask", x -> x.ask(3));
        room("order", x -> x.order(3, 700, 6));
    }
}

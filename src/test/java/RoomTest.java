import com.sun.management.ThreadMXBean;
import java.lang.management.ManagementFactory;
import java.util.NoSuchElementException;

/** All calls of one run live in one room: what an object and the dearest of its 512 calls make stays small. */
public final class RoomTest {
    /** Of the room's 7.3 million elements, each counted as four bytes, not the tenth part. */
    private static final long MOST_BYTES = 2_900_000;
    private static final int CALLS = 440;

    private static final String TOWN = "house 5 5 9;tree 9 0 1;arcade 0 9;awning 6 6 when day=2;shut 3 3 when minute<90;"
            + "water 8 8;sun 0 from 0 north 9 over 1;sun 0 from 60 east 1 over 2;"
            + "walker 0 pace 1 bears 3 mends 1 ice 100 hot 5 cool 1;walker 1 pace 2 bears 9 mends 9 ice 0 hot 9 cool 9;";

    private RoomTest() {
    }

    public static void main(String[] args) {
        if (!(ManagementFactory.getThreadMXBean() instanceof ThreadMXBean threads)
                || !threads.isThreadAllocatedMemorySupported()) {
            System.out.println("this machine does not count what is made");
            return;
        }
        for (int call = 0; call < 34; call++) {
            run(call, 1);
            long bytes = run(call, CALLS);
            Check.due("call " + call + " makes " + bytes + " bytes", bytes <= MOST_BYTES, true);
        }
        Check.end();
    }

    private static long run(int call, int many) {
        ThreadMXBean threads = (ThreadMXBean) ManagementFactory.getThreadMXBean();
        long before = threads.getThreadAllocatedBytes(Thread.currentThread().getId());
        ShadySide x = new ShadySide();
        Check.feed(x, TOWN);
        x.town();
        for (int i = 0; i < many; i++) {
            ask(x, call, i);
        }
        return threads.getThreadAllocatedBytes(Thread.currentThread().getId()) - before;
    }

    private static long ask(ShadySide x, int call, int i) {
        try {
            return call < 18 ? first(x, call, i) : second(x, call, i);
        } catch (NoSuchElementException e) {
            return -1;
        }
    }

    private static long first(ShadySide x, int call, int i) {
        switch (call) {
            case 0: return x.least(0, 0, i % 120, 0, 99, i % 3);
            case 1: return x.piece(0, 0, i % 100, 0, 33, i % 20);
            case 2: return x.soon(0, 0, i % 100, 0, 33, i % 20);
            case 3: return x.both(0, 0, i % 100, 0, 33, i % 3, 0);
            case 4: return x.bears(0, 0, i % 100, 0, 33);
            case 5: return x.hours(1, 0, 0, i % 50);
            case 6: return x.ice(0, 0, i % 100, 0, 33);
            case 7: return x.pays(0, 0, i % 100, 0, 33);
            case 8: return x.guessed(0, 0, i % 100, 0, 32, i % 11, 12, 0);
            case 9: return x.crowd(0, 0, i % 100, 0, 33, 119, 8, 9, i % 4);
            case 10: return x.plant(0, 0, i % 100, 0, 44, 9, 0);
            case 11: return x.spot(i % 100);
            case 12: return x.mark(i % 5, i % 2 == 1) ? 1 : 0;
            case 13: return x.pull(55) ? 1 : 0;
            case 14: return x.dark(0, 0, 0, i % 50, 2);
            case 15: return x.follow(i % 100);
            case 16: return x.start(0, 0, 119, 3);
            default: return x.tell(i % 5);
        }
    }

    private static long second(ShadySide x, int call, int i) {
        switch (call) {
            case 18: return x.judged(0, 0, i % 120, 0, 3);
            case 19: return x.rests(0, 0, i % 100, 0, 33, i % 4);
            case 20: return x.leave(0, 0, 0, i % 120, 0, 33, 0);
            case 21: return x.errand(0, 0, i % 60, 0, 33, 9, 0);
            case 22: return x.meet(0, 0, 1, 99, 0, i % 100, 0);
            case 23: return x.cover(0, 0, i % 100, 0, 44, 0);
            case 24: return x.keeps(0, 0, i % 100, 0, 44, 55);
            case 25: return x.price(0, 0, i % 100, 0, 33, 119, 8, 9);
            case 26: return x.broad(0, 0);
            case 27: return x.edges(0, 1 + i % 119, true);
            case 28: return x.spots(0, 0, i % 90, 0, 44, 9, 8, i % 2) + x.spot(i % 100);
            case 29: return x.feed(0x7761746572302030L, 0x3B00000000000000L, 0) + x.town();
            case 30: return x.feed(0x73756E2030206672L, 0x6F6D2030206E6F72L, 0x74682039) + x.town();
            case 31: return x.feed(0x2828282828282828L, -1, 0x2020202020202020L);
            case 32: return x.when(0, 0, i % 100, true);
            default: return x.dim(0, i % 120) + x.count(i % 12) + x.square(i % 100, 1);
        }
    }
}

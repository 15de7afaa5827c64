import java.lang.management.ManagementFactory;

/** The room that a run takes: the constructor makes some objects, and no call makes one. */
public final class RoomTest {
    private static final Check check = new Check("RoomTest");
    private static final com.sun.management.ThreadMXBean threads =
            (com.sun.management.ThreadMXBean) ManagementFactory.getThreadMXBean();

    public static void main(String[] args) {
        check.topic("room");
        MarbleHeirs x = Check.machine("00 11 22 33 04 15");
        everyCall(x);
        long before = taken();
        for (int times = 0; times < 1000; times++) {
            everyCall(x);
        }
        long calls = taken() - before;
        check.holds("calls take no room, not " + calls, calls < 10_000);
        before = taken();
        MarbleHeirs[] made = new MarbleHeirs[100];
        for (int i = 0; i < 100; i++) {
            made[i] = new MarbleHeirs();
        }
        long each = (taken() - before) / 100;
        check.holds("an object takes little room, not " + each, each < 12_000);
        check.due("total(0) of the last one", made[99].total(0), 0);
        check.end();
    }

    private static long taken() {
        return threads.getThreadAllocatedBytes(Thread.currentThread().getId());
    }

    private static void everyCall(MarbleHeirs x) {
        x.come(0, 0);
        x.wish(0, 3);
        x.setRule(1);
        x.setPatience(3);
        x.grant(0, 2);
        x.drop(1, 5);
        x.append('9');
        x.append('r');
        x.append('4');
        x.errorPosition();
        x.pour();
        x.clearText();
        x.fairestRule();
        x.ifDivided(0, 1);
        x.round();
        x.divide();
        x.whoVetoes(0, 0, 1, 0);
        x.swap(0, 0, 1, 0);
        x.bestSwap(0);
        x.settle();
        for (int i = 0; i <= 12; i++) {
            x.total(i);
            x.heir(0, i);
        }
        x.bag(0, 0, 0);
        x.hopper(0, 0);
        x.vetoes(0);
        x.at(0);
        x.leave(0);
        x.undo();
        x.save();
        x.restore();
    }
}

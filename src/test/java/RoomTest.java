import java.lang.management.ManagementFactory;
import java.lang.management.ThreadMXBean;

/** All calls of a run live in one room: a new object is small, and calls make nothing more. */
public final class RoomTest {
    /** Far more calls than an object is used for: what they make would show, whatever they answer. */
    private static final int TURNS = 512;
    private static final int BYTES_OF_AN_OBJECT = 60_000;
    /** Room for what the measuring itself makes. */
    private static final int BYTES_OF_ALL_CALLS = 20_000;

    private static int sum = 0;

    private RoomTest() {
    }

    public static void main(String[] args) {
        ThreadMXBean bean = ManagementFactory.getThreadMXBean();
        if (!(bean instanceof com.sun.management.ThreadMXBean counter)
            || !counter.isThreadAllocatedMemorySupported()) {
            System.out.println("this machine does not count what a thread makes");
            return;
        }
        Check.part("room");
        run(new RecursionSchemes(), 0);
        long id = Thread.currentThread().getId();
        long before = counter.getThreadAllocatedBytes(id);
        RecursionSchemes x = new RecursionSchemes();
        long made = counter.getThreadAllocatedBytes(id) - before;
        Check.holds("a new object takes " + made + " bytes", made < BYTES_OF_AN_OBJECT);
        before = counter.getThreadAllocatedBytes(id);
        for (int turn = 0; turn < TURNS; turn++) {
            run(x, turn);
        }
        made = counter.getThreadAllocatedBytes(id) - before;
        Check.holds("the calls take " + made + " bytes", made < BYTES_OF_ALL_CALLS);
        Check.holds("the calls answer", sum != 0);
        Check.finish();
    }

    private static void run(RecursionSchemes x, int turn) {
        String setup = "S=Hcd;F=aFxbx;G=bFx;H=aFxHyby;0a00;0b1;1b0;0c;0d;";
        x.clearText();
        for (int i = 0; i < setup.length(); i++) {
            sum += x.append(setup.charAt(i));
        }
        sum += x.errorPosition() + x.load() + x.reachable() + x.exchange() + x.inline(3, 1);
        sum += x.setTransition(1, 1, 1, 0) + x.removeTransition(1, 1) + x.undo() + x.save(turn & 1);
        sum += x.labelAt(0) + x.nodesAtDepth(6) + x.wrongBranch(6) + x.accepts() + x.demand(3, 0, 1);
        sum += x.runScript(4, 2110300050016003L) + x.descend(turn, 30) + x.restore(turn & 1);
    }
}

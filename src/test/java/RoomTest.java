import com.sun.management.ThreadMXBean;
import java.lang.management.ManagementFactory;

/** That calls make next to nothing: what a run may make is bounded, and all room is made with the object. */
public final class RoomTest {
    private static final int CALLS = 500;
    private static final long MOST_BYTES_OF_OBJECT = 40_000;
    private static final long MOST_BYTES_OF_CALLS = 20_000;

    public static void main(String[] args) {
        Check check = new Check();
        ThreadMXBean threads = (ThreadMXBean) ManagementFactory.getThreadMXBean();
        dearest(Check.loaded("a\n1\n"), 10);
        long before = threads.getCurrentThreadAllocatedBytes();
        AskedTable x = new AskedTable();
        long made = threads.getCurrentThreadAllocatedBytes();
        Check.set(x, false, "a,b,c,d,e,f" + "\n1,2020-01-01,\"x\",,\"\"\"\",2".repeat(8));
        x.load();
        long ready = threads.getCurrentThreadAllocatedBytes();
        dearest(x, CALLS);
        long ended = threads.getCurrentThreadAllocatedBytes();
        check.due("an object of " + (made - before) + " bytes is small", made - before < MOST_BYTES_OF_OBJECT, true);
        check.due("calls that make " + (ended - ready) + " bytes make little", ended - ready < MOST_BYTES_OF_CALLS, true);
        check.end();
    }

    private static void dearest(AskedTable x, int calls) {
        Check.set(x, true, "most(a) by a where not(a=1 and a<2)or a>=0");
        for (int i = 0; i < calls; i++) {
            x.load();
            x.ask();
            x.write(true);
            x.write(false);
        }
    }
}

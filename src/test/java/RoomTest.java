import com.sun.management.ThreadMXBean;
import java.lang.management.ManagementFactory;

/** All calls of a run share one room, so only the constructor makes objects: the calls make none. */
public final class RoomTest {
    // The test itself makes a few objects beside the calls.
    private static final long MOST_BYTES = 4000;
    private static final String TEXT = "j1,10;o00,5;o01,7;j9,4;o10,3;d0,3,9;p2;";
    private static long sum;

    public static void main(String[] args) {
        ThreadMXBean meter = (ThreadMXBean) ManagementFactory.getThreadMXBean();
        for (int run = 0; run < 20; run++) {
            RepairShop x = new RepairShop();
            long before = meter.getCurrentThreadAllocatedBytes();
            allCalls(x);
            long made = meter.getCurrentThreadAllocatedBytes() - before;
            // The first runs load classes.
            if (run >= 10) {
                Checks.holds("run " + run + ": the calls make no objects, but made " + made + " bytes",
                        made <= MOST_BYTES);
            }
        }
        Checks.holds("the calls answered", sum != 0);
        Checks.close("RoomTest");
    }

    private static void allCalls(RepairShop x) {
        for (int round = 0; round < 5; round++) {
            sum += x.begin(3) + x.clearText();
            for (int at = 0; at < TEXT.length(); at++) {
                sum += x.append(TEXT.charAt(at));
            }
            sum += x.carryOut() + x.addJob(3, 3) + x.addOperation(2, 2, 9) + x.breakDown(2, 5, 5) + x.plan(1);
            sum += x.repaired() + x.breakDown(1, 6, 6) + x.shift() + x.replan(5, 3) + x.accept() + x.bargain(0, 2);
            sum += x.job(0, 5) + x.operation(0, 1, 4) + x.breakdown(0, 2) + x.value(9) + x.meeting();
            sum += x.onMachine(0, 1) + x.latenessShifted() + x.bestReplan(9) + (long) (1000 * x.usage());
            sum += x.overtime(0, 0) + x.undo() + x.digest();
            for (int rule = 0; rule < 4; rule++) {
                sum += x.latenessBy(rule) + x.bestRule() + x.bestOvertime(rule);
            }
        }
    }
}

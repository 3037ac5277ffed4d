import com.sun.management.ThreadMXBean;
import java.lang.management.ManagementFactory;

/** What is taken from the room: a little for an object, nothing for its calls once all has been used. */
public final class RoomTest {
    private static final int CALLS = 512;

    private RoomTest() {
    }

    private static long taken() {
        return ((ThreadMXBean) ManagementFactory.getThreadMXBean()).getThreadAllocatedBytes(Thread.currentThread().getId());
    }

    /** Some forty calls of all kinds, of which none throws. */
    private static long everything(BorderBasis x, int round) {
        long sum = 0;
        x.truncateText(0);
        x.appendText(0x6A6F696E);
        x.appendText(0x20312030);
        x.truncateText(x.appendText(0x3B000000) - 3);
        sum += x.load();
        for (int k = 0; k < 12; k++) {
            sum += x.addPoint((k * k + round) % 31, (7 * k + round) % 31);
        }
        sum += x.fit() + x.misfits() + x.zeros(0) + x.zeros(1) + x.zeros(2) + x.zero(3, 2);
        sum += x.multiplicity(round % 31, 3) + x.determinant(0) + x.kernel(1, 2) + x.trace(22, 22) + x.normal(22, 22, 3);
        sum += x.share() > 0.5 ? 1 : 0;
        sum += x.setRule(0, 0, 3) + x.clash(4) + x.count(6) + x.value(0, 1, 1) + x.table(0, 1, 1) + x.point(0, 2);
        x.save(0);
        x.save(1);
        sum += x.removePoint(1) + x.undo();
        x.restore(round % 2);
        x.appendText(0x3520312C);
        x.truncateText(0);
        x.appendText(0x35203220);
        x.appendText(0x34202020);
        sum += x.reduce() + x.result(2) + x.errorCode() + x.errorPosition() + x.place(1, 1) + x.refusal(5, 5);
        return sum;
    }

    public static void main(String[] args) {
        taken();
        everything(new BorderBasis(), 0);
        long before = taken();
        BorderBasis x = new BorderBasis();
        long made = taken() - before;
        everything(x, 1);
        before = taken();
        long sum = 0;
        for (int round = 0; round < CALLS; round++) {
            sum += everything(x, round);
        }
        long used = taken() - before;
        System.out.println("a new object: " + made + " bytes; " + CALLS + " rounds of calls: " + used + " bytes (" + sum + ")");
        boolean right = made < 100000 && used < 10000;
        System.out.println("2 checks, " + (right ? 0 : 1) + " wrong");
        System.exit(right ? 0 : 1);
    }
}

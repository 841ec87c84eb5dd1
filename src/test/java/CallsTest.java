import com.sun.management.ThreadMXBean;
import java.lang.management.ManagementFactory;

/** An object is used for 512 calls, and what these make must be little: LANGUAGE.md, rule 12. */
public final class CallsTest {
    private static final int CALLS = 512;
    private static final int CALLS_OF_A_ROUND = 5;
    private static final int ROUNDS = (CALLS - Sheltered.CALLS_OF_FULL) / CALLS_OF_A_ROUND;
    /** A text, its characters and what it was built with, each with room to spare. */
    private static final long BYTES_OF_A_CALL = 256;
    private static final long BYTES_OF_A_COUNTY = 8192;

    private final Check check = new Check();
    private final ThreadMXBean machine = (ThreadMXBean) ManagementFactory.getThreadMXBean();

    public static void main(String[] args) {
        CallsTest test = new CallsTest();
        test.allCallsAreAnswered();
        test.theLastCallIsAsTheFirst();
        test.countyIsSmall();
        test.callsMakeLittle();
        test.check.end("CallsTest");
    }

    private void allCallsAreAnswered() {
        Twelvehundred x = new Twelvehundred();
        for (int call = 1; call <= CALLS; call++) {
            int due = call;
            check.due("call " + call, due, () -> x.knock());
        }
    }

    private void theLastCallIsAsTheFirst() {
        Twelvehundred x = Sheltered.full();
        long first = x.digest();
        for (int call = Sheltered.CALLS_OF_FULL + 2; call < CALLS; call++) {
            x.digest();
        }
        check.due("the last digest", first, () -> x.digest());
    }

    private void countyIsSmall() {
        Sheltered.full();
        long before = madeBytes();
        Sheltered.full();
        long made = madeBytes() - before;
        check.due("a full county is made of " + made + " bytes", true, () -> made <= BYTES_OF_A_COUNTY);
    }

    private void callsMakeLittle() {
        Twelvehundred x = Sheltered.full();
        askAll(x, 0);
        long before = madeBytes();
        for (int round = 1; round < ROUNDS; round++) {
            askAll(x, round);
        }
        long made = madeBytes() - before;
        long most = (long) ROUNDS * CALLS_OF_A_ROUND * BYTES_OF_A_CALL;
        check.due("calls have made " + made + " bytes", true, () -> made <= most);
    }

    /** The calls that look through much, and the one that makes a text by itself. */
    private static void askAll(Twelvehundred x, int round) {
        x.digest();
        x.rooms(round % 3, round % 5);
        x.isStable(round);
        x.strike(round % 12, round % 2 == 0);
        x.signs();
    }

    private long madeBytes() {
        return machine.getThreadAllocatedBytes(Thread.currentThread().getId());
    }
}

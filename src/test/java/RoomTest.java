import com.sun.management.ThreadMXBean;
import java.lang.management.ManagementFactory;

/** A kernel makes what it needs when it is made: the calls on it make nothing more. */
public final class RoomTest {
    private static final int CALLS = 512;

    public static void main(String[] args) {
        ThreadMXBean threads = (ThreadMXBean) ManagementFactory.getThreadMXBean();
        long self = Thread.currentThread().getId();
        PipeKernel warm = busy();
        calls(warm);
        PipeKernel k = busy();
        threads.getThreadAllocatedBytes(self);
        long before = threads.getThreadAllocatedBytes(self);
        calls(k);
        long made = threads.getThreadAllocatedBytes(self) - before;
        Check.isTrue("the steps were done", k.time() > CALLS * 20);
        // The measuring itself may make a little.
        Check.isTrue("bytes made by " + CALLS + " calls: " + made, made < 4096);
        Check.done();
    }

    /** Forks, pipes, faults, sleep and the console, over and over. */
    private static PipeKernel busy() {
        return Code.booted(3, 2, Code.PIPE, Code.store(100), Code.store(101),
            Code.FORK, Code.jumpIfZero(17), Code.push(7), Code.fetch(100), Code.WRITE, Code.push(1), Code.WRITE,
            Code.DROP, Code.push(2), Code.SLEEP, Code.DROP, Code.WAIT, Code.jump(28), Code.NOP,
            Code.fetch(101), Code.READ, Code.DROP, Code.push(1), Code.WRITE, Code.PIPE, Code.FORK, Code.DROP,
            Code.push(5), Code.push(0), Code.DIV,
            Code.DROP, Code.DROP, Code.jump(3));
    }

    private static void calls(PipeKernel k) {
        int sum = 0;
        for (int i = 0; i < CALLS; i++) {
            sum += k.run(40) + k.outs() + k.queue(i & 15) + k.pipe(i & 7, i % 5) + k.state(i & 15);
        }
        Check.isTrue("a sum", sum > 0);
    }
}

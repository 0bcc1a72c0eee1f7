/** Copies, ends, children and parents: FORK, WAIT, EXIT, KILL and FAULTs. */
public final class EndingTest {
    public static void main(String[] args) {
        fork();
        forkIsACopy();
        forkTakesTheLeastNumber();
        noNumberIsFree();
        exit();
        waitForNone();
        waitForEnded();
        waitTakesTheLeast();
        waitWaits();
        kill();
        killNobody();
        killItself();
        killsTheParent();
        withoutParentItIsGone();
        childrenGoToProcessZero();
        endedChildrenGoToProcessZero();
        parentBeforeProcessZero();
        childrenOfProcessZero();
        endedChildrenOfProcessZero();
        processZeroAnew();
        processZeroIsItsOwnParent();
        endedProcessZeroTakesNone();
        descriptorsCloseFromZeroOn();
        lastProcess();
        Check.done();
    }

    private static void fork() {
        PipeKernel k = Code.booted(9, 1, Code.push(7), Code.FORK, Code.jump(2));
        k.run(2);
        Check.stack("the parent", k, 0, 7, 1);
        Check.stack("the child", k, 1, 7, 0);
        Check.same("PLACE of the parent", k.about(0, 0), 2);
        Check.same("PLACE of the child", k.about(1, 0), 2);
        Check.same("its parent", k.about(1, 2), 0);
        Check.same("READY", k.state(1), PipeKernel.READY);
        Check.queue("at the end", k, 0, 1);
    }

    private static void forkIsACopy() {
        PipeKernel k = Code.booted(9, 1, Code.push(5), Code.store(90), Code.PIPE, Code.push(0), Code.CLOSE, Code.FORK,
            Code.push(6), Code.store(90), Code.jump(8));
        k.run(8);
        for (int place = 0; place < 128; place++) {
            Check.same("memory " + place, k.memory(1, place), place == 90 ? 5 : k.memory(0, place));
        }
        for (int d = 0; d < 8; d++) {
            Check.same("descriptor " + d, k.descriptor(1, d), k.descriptor(0, d));
        }
        Check.same("reading ends", k.pipe(0, 1), 2);
        Check.same("writing ends", k.pipe(0, 2), 2);
        Check.same("the parent's memory is its own", k.memory(0, 90), 6);
    }

    private static void forkTakesTheLeastNumber() {
        // Children 1, 2, 3 wait for IN; 2 is killed and taken; the next child is 2 again.
        PipeKernel k = Code.booted(100, 1, Code.FORK, Code.jumpIfZero(20), Code.FORK, Code.jumpIfZero(20),
            Code.FORK, Code.jumpIfZero(20), Code.push(2), Code.KILL, Code.DROP, Code.WAIT, Code.FORK, Code.jumpIfZero(20),
            Code.jump(12), 0, 0, 0, 0, 0, 0, 0, Code.push(0), Code.READ);
        Code.runTo(k, 0, 10);
        Check.stack("KILL and WAIT", k, 0, -9, 2);
        Check.same("2 is gone", k.state(2), 0);
        Check.noState("2 is gone", () -> k.about(2, 0));
        k.run(1);
        Check.same("2 anew", k.stack(0, 0), 2);
        Check.same("2 anew", k.state(2), PipeKernel.READY);
        Check.same("its CODE", k.about(2, 3), 0);
        Check.stack("its stack", k, 2, -9, 2, 0);
    }

    private static void noNumberIsFree() {
        PipeKernel k = Code.booted(100, 1, Code.FORK, Code.jumpIfZero(4), Code.jump(0), 0, Code.push(0), Code.READ);
        Code.runTo(k, 0, 0);
        for (int i = 0; i < 15; i++) {
            k.run(3);
        }
        Check.same("15 children", k.state(15), PipeKernel.READY);
        k.run(1);
        Check.stack("none is free", k, 0, -1);
        // One that ENDED has its number till it is gone.
        PipeKernel ended = Code.booted(100, 1, Code.FORK, Code.jumpIfZero(4), Code.YIELD, Code.jump(0), Code.push(0), Code.EXIT);
        Code.steps(ended, 15 * 7);
        for (int p = 1; p < 16; p++) {
            Check.same("ENDED", ended.state(p), PipeKernel.ENDED);
        }
        ended.run(1);
        Check.stack("none is free", ended, 0, -1);
    }

    private static void exit() {
        PipeKernel k = Code.booted(1, 1, Code.FORK, Code.jumpIfZero(3), Code.jump(2), Code.push(4), Code.push(-5), Code.EXIT);
        k.run(20);
        Check.same("ENDED", k.state(1), PipeKernel.ENDED);
        Check.same("CODE", k.about(1, 3), -5);
        Check.stack("x is popped", k, 1, 4);
        Check.same("PLACE grows", k.about(1, 0), 6);
        Check.same("its memory is there", k.memory(1, 0), Code.FORK);
        Check.queue("off the queue", k, 0);
    }

    private static void waitForNone() {
        PipeKernel k = Code.booted(1, 1, Code.WAIT);
        k.run(1);
        Check.stack("no child", k, 0, 0, -1);
        Check.same("PLACE", k.about(0, 0), 1);
    }

    private static void waitForEnded() {
        PipeKernel k = Code.booted(1, 1, Code.FORK, Code.jumpIfZero(7), Code.push(20), Code.SLEEP, Code.DROP, Code.WAIT,
            Code.WAIT, Code.push(42), Code.EXIT);
        k.run(10);
        Check.same("ENDED", k.state(1), PipeKernel.ENDED);
        Code.runTo(k, 0, 6);
        Check.stack("CODE and number", k, 0, 42, 1);
        Check.same("gone", k.state(1), 0);
        Check.noIndex("gone", () -> k.memory(1, 0));
        k.run(1);
        Check.stack("no child any more", k, 0, 42, 1, 0, -1);
    }

    private static void waitTakesTheLeast() {
        // Process 2 ends before process 1.
        PipeKernel k = Code.booted(1, 1, Code.FORK, Code.jumpIfZero(10), Code.FORK, Code.jumpIfZero(13), Code.push(30),
            Code.SLEEP, Code.DROP, Code.WAIT, Code.WAIT, Code.jump(9), Code.push(12), Code.SLEEP, Code.DROP,
            Code.NUMBER, Code.push(100), Code.ADD, Code.EXIT);
        for (int i = 0; i < 40 && k.state(2) != PipeKernel.ENDED; i++) {
            k.run(1);
        }
        Check.same("2 is ENDED", k.state(2), PipeKernel.ENDED);
        Check.same("1 is not", k.state(1), PipeKernel.SLEEPS);
        Code.runTo(k, 0, 9);
        Check.stack("1, then 2", k, 0, 101, 1, 102, 2);
    }

    private static void waitWaits() {
        PipeKernel k = Code.booted(1, 1, Code.FORK, Code.jumpIfZero(4), Code.WAIT, Code.jump(3), Code.push(0), Code.READ,
            Code.EXIT);
        Code.steps(k, 40);
        Check.same("WAITS", k.state(0), PipeKernel.WAITS);
        Check.same("PLACE stays", k.about(0, 0), 2);
        Check.stack("nothing is pushed", k, 0);
        k.feed(33);
        k.run(2);
        Check.same("READY", k.state(0), PipeKernel.READY);
        Check.queue("READY", k, 0);
        Check.same("the child is there", k.state(1), PipeKernel.ENDED);
        Check.same("the same instruction again", k.about(0, 0), 2);
        k.run(1);
        Check.stack("CODE and number", k, 0, 1, 1);
        Check.same("the child is gone", k.state(1), 0);
    }

    private static void kill() {
        PipeKernel k = Code.booted(100, 1, Code.FORK, Code.jumpIfZero(5), Code.push(1), Code.KILL, Code.jump(4),
            Code.jump(5));
        k.run(4);
        Check.stack("0 is pushed", k, 0, 0);
        Check.same("ENDED", k.state(1), PipeKernel.ENDED);
        Check.same("CODE", k.about(1, 3), -9);
        Check.same("PLACE of the victim stays", k.about(1, 0), 1);
        Check.stack("its stack stays", k, 1, 0);
        Check.same("its descriptors are closed", k.about(1, 5), 0);
        Check.queue("off the queue", k, 0);
        PipeKernel sleeper = Code.booted(100, 1, Code.FORK, Code.jumpIfZero(6), Code.YIELD, Code.push(1), Code.KILL,
            Code.jump(5), Code.push(10), Code.SLEEP);
        Code.runTo(sleeper, 0, 4);
        Check.same("SLEEPS", sleeper.state(1), PipeKernel.SLEEPS);
        sleeper.run(1);
        Check.same("a sleeper too", sleeper.about(1, 3), -9);
        Check.same("its time", sleeper.about(1, 4), 0);
        sleeper.run(20);
        Check.same("it does not wake", sleeper.state(1), PipeKernel.ENDED);
    }

    private static void killNobody() {
        for (int x : new int[] {1, 15, 16, -1, Integer.MIN_VALUE >> 8, Integer.MAX_VALUE >> 8}) {
            PipeKernel k = Code.booted(1, 1, Code.push(x), Code.KILL);
            k.run(2);
            Check.stack("KILL of " + x, k, 0, -1);
        }
        PipeKernel twice = Code.booted(100, 1, Code.FORK, Code.jumpIfZero(7), Code.push(1), Code.KILL, Code.push(1), Code.KILL,
            Code.jump(6), Code.jump(7));
        twice.run(6);
        Check.stack("of one that ENDED", twice, 0, 0, -1);
        Check.same("its CODE stays", twice.about(1, 3), -9);
    }

    private static void killItself() {
        PipeKernel k = Code.booted(1, 1, Code.FORK, Code.jumpIfZero(3), Code.jump(2), Code.push(8), Code.push(1), Code.KILL);
        k.run(20);
        Check.same("ENDED", k.state(1), PipeKernel.ENDED);
        Check.same("CODE", k.about(1, 3), -9);
        Check.same("PLACE grows", k.about(1, 0), 6);
        Check.stack("nothing is pushed", k, 1, 8);
        PipeKernel alone = Code.booted(1, 1, Code.push(0), Code.KILL);
        alone.run(2);
        Check.same("gone", alone.state(0), 0);
    }

    private static void killsTheParent() {
        PipeKernel k = Code.booted(1, 1, Code.FORK, Code.jumpIfZero(3), Code.WAIT, Code.push(0), Code.KILL, Code.jump(5));
        Code.runTo(k, 1, 5);
        Check.stack("0 is pushed", k, 1, 0);
        Check.same("it is gone", k.state(0), 0);
        Check.same("no parent", k.about(1, 2), PipeKernel.NONE);
        Check.queue("it waits no more", k, 1);
    }

    private static void withoutParentItIsGone() {
        PipeKernel k = Code.booted(1, 1, Code.push(5), Code.EXIT);
        Check.same("steps", k.run(40), 2);
        Check.same("gone", k.state(0), 0);
        Check.queue("gone", k);
    }

    /** Process 1 forks 2 and ends; process 0 becomes the parent of 2. */
    private static void childrenGoToProcessZero() {
        PipeKernel k = Code.booted(100, 1, Code.FORK, Code.jumpIfZero(5), Code.WAIT, Code.WAIT, Code.jump(4),
            Code.FORK, Code.jumpIfZero(9), Code.push(11), Code.EXIT, Code.push(0), Code.READ, Code.push(22), Code.EXIT);
        Code.runTo(k, 1, 8);
        Check.same("before", k.about(2, 2), 1);
        k.run(1);
        Check.same("its parent is process 0", k.about(2, 2), 0);
        Check.same("the parent is READY", k.state(0), PipeKernel.READY);
        Code.steps(k, 40);
        Check.same("it waits for the other child", k.state(0), PipeKernel.WAITS);
        k.feed(1);
        Code.runTo(k, 0, 4);
        Check.stack("both", k, 0, 11, 1, 22, 2);
    }

    /** Process 1 forks 2, which forks 3; 3 ENDED when 2 ends, and process 0 gets it. */
    private static final int[] THREE_DEEP = {
        Code.FORK, Code.jumpIfZero(4), Code.WAIT, Code.jump(3),
        // process 1
        Code.FORK, Code.jumpIfZero(8), Code.push(0), Code.READ,
        // process 2
        Code.FORK, Code.jumpIfZero(14), Code.YIELD, Code.YIELD, Code.push(2), Code.EXIT,
        // process 3
        Code.push(3), Code.EXIT};

    private static void endedChildrenGoToProcessZero() {
        PipeKernel k = Code.booted(100, 1, THREE_DEEP);
        Code.runTo(k, 2, 13);
        Check.same("3 is ENDED", k.state(3), PipeKernel.ENDED);
        Check.same("process 0 waits", k.state(0), PipeKernel.WAITS);
        Check.same("process 1 reads", k.state(1), PipeKernel.READS);
        k.run(1);
        Check.same("2 is ENDED", k.state(2), PipeKernel.ENDED);
        Check.same("2 is process 1's", k.about(2, 2), 1);
        Check.same("3 is process 0's", k.about(3, 2), 0);
        Check.queue("process 0 has got one that ENDED", k, 0);
        k.run(1);
        Check.stack("which is 3", k, 0, 3, 3);
    }

    private static void parentBeforeProcessZero() {
        int[] program = THREE_DEEP.clone();
        program[6] = Code.NOP;
        program[7] = Code.WAIT;
        PipeKernel k = Code.booted(100, 1, program);
        Code.runTo(k, 2, 13);
        Check.same("process 0 waits", k.state(0), PipeKernel.WAITS);
        Check.same("process 1 waits", k.state(1), PipeKernel.WAITS);
        k.run(1);
        Check.queue("the parent, then process 0", k, 1, 0);
    }

    private static void childrenOfProcessZero() {
        PipeKernel k = Code.booted(100, 1, Code.FORK, Code.jumpIfZero(4), Code.push(1), Code.EXIT, Code.NOP, Code.NOP,
            Code.push(1), Code.EXIT);
        k.run(4);
        Check.same("process 0 is gone", k.state(0), 0);
        Check.same("no parent", k.about(1, 2), PipeKernel.NONE);
        Check.same("it goes on", k.run(40), 5);
        Check.same("and is gone when it ends", k.state(1), 0);
    }

    private static void endedChildrenOfProcessZero() {
        PipeKernel k = Code.booted(100, 1, Code.FORK, Code.jumpIfZero(5), Code.YIELD, Code.push(1), Code.EXIT,
            Code.push(1), Code.EXIT);
        Code.runTo(k, 0, 4);
        Check.same("1 is ENDED", k.state(1), PipeKernel.ENDED);
        k.run(1);
        Check.same("0 is gone", k.state(0), 0);
        Check.same("1 is gone with it", k.state(1), 0);
    }

    /** Process 1 has no parent; its child gets number 0, which is free. */
    private static final int[] ANEW = {
        Code.FORK, Code.jumpIfZero(4), Code.push(1), Code.EXIT,
        Code.FORK, Code.jump(6), Code.jump(6)};

    private static void processZeroAnew() {
        PipeKernel k = Code.booted(100, 1, ANEW);
        k.run(4);
        Check.same("gone", k.state(0), 0);
        k.run(2);
        Check.same("0 anew", k.state(0), PipeKernel.READY);
        Check.same("a child of 1", k.about(0, 2), 1);
        Check.stack("the parent", k, 1, 0);
        Check.stack("the child", k, 0, 0);
    }

    /** The children become those of process 0, and it is one of them. */
    private static void processZeroIsItsOwnParent() {
        PipeKernel k = Code.booted(100, 1, Code.FORK, Code.jumpIfZero(4), Code.push(1), Code.EXIT,
            Code.FORK, Code.NUMBER, Code.jumpIfZero(9), Code.push(1), Code.EXIT, Code.YIELD, Code.WAIT);
        Code.runTo(k, 0, 9);
        Check.same("its parent is gone", k.state(1), 0);
        Check.same("it is its own", k.about(0, 2), 0);
        Code.steps(k, 40);
        Check.same("and waits for itself", k.state(0), PipeKernel.WAITS);
        PipeKernel ends = Code.booted(100, 1, Code.FORK, Code.jumpIfZero(4), Code.push(1), Code.EXIT,
            Code.FORK, Code.NUMBER, Code.jumpIfZero(9), Code.push(1), Code.EXIT, Code.push(1), Code.EXIT);
        Code.steps(ends, 40);
        Check.same("it is gone when it ends", ends.state(0), 0);
    }

    private static void endedProcessZeroTakesNone() {
        // 0 anew ENDED as a child of 1; then 2, a child of 1, ends, whose child is 3.
        PipeKernel k = Code.booted(100, 1, Code.FORK, Code.jumpIfZero(4), Code.push(1), Code.EXIT,
            Code.FORK, Code.NUMBER, Code.jumpIfZero(20), Code.YIELD,
            Code.FORK, Code.NUMBER, Code.push(2), Code.SAME, Code.jumpIfZero(22),
            Code.FORK, Code.NUMBER, Code.push(3), Code.SAME, Code.NOT, Code.jumpIfZero(22), Code.push(6),
            Code.EXIT, 0, Code.YIELD, Code.jump(22));
        k.run(4);
        for (int i = 0; i < 300 && k.state(2) != PipeKernel.ENDED; i++) {
            k.run(1);
        }
        Check.same("0 is ENDED", k.state(0), PipeKernel.ENDED);
        Check.same("2 is ENDED", k.state(2), PipeKernel.ENDED);
        Check.same("2 is process 1's", k.about(2, 2), 1);
        Check.same("3 has no parent", k.about(3, 2), PipeKernel.NONE);
    }

    /** Process 2 waits for pipe 1, process 1 for pipe 0; process 0 has both writing ends, that of pipe 1 first. */
    private static void descriptorsCloseFromZeroOn() {
        PipeKernel k = Code.booted(100, 1, Code.PIPE, Code.PIPE, Code.push(0), Code.CLOSE, Code.push(5), Code.DUP,
            Code.push(5), Code.CLOSE, Code.FORK, Code.jumpIfZero(20), Code.FORK, Code.jumpIfZero(30), Code.YIELD,
            Code.push(1), Code.EXIT, 0, 0, 0, 0, 0,
            Code.push(0), Code.CLOSE, Code.push(3), Code.CLOSE, Code.push(2), Code.READ, 0, 0, 0, 0,
            Code.push(0), Code.CLOSE, Code.push(3), Code.CLOSE, Code.push(4), Code.READ);
        Code.runTo(k, 0, 14);
        Check.same("1 waits for pipe 0", k.pipe(0, 3), 1);
        Check.same("2 waits for pipe 1", k.pipe(1, 3), 1);
        Check.same("descriptor 0", k.descriptor(0, 0), 21);
        Check.same("descriptor 3", k.descriptor(0, 3), 20);
        k.run(1);
        Check.queue("by the descriptors", k, 2, 1);
    }

    /** Processes 1 .. 15 read; process 15 is the last one that does, and can be killed and taken as any other. */
    private static void lastProcess() {
        PipeKernel k = Code.booted(100, 1,
            Code.FORK, Code.TWICE, Code.jumpIfZero(20), Code.push(15), Code.SAME, Code.jumpIfZero(0), Code.YIELD,
            Code.push(15), Code.KILL, Code.WAIT, Code.jump(10), 0, 0, 0, 0, 0, 0, 0, 0, 0,
            Code.READ);
        Code.runTo(k, 0, 8);
        for (int p = 1; p < 16; p++) {
            Check.same("process " + p + " waits", k.state(p), PipeKernel.READS);
        }
        k.run(1);
        Check.same("KILL of 15", k.about(15, 3), -9);
        k.run(1);
        Check.stack("WAIT for 15", k, 0, 0, -9, 15);
        k.shut();
        Check.queue("the others wake in turn", k, 0, 1, 2, 3, 4, 5, 6, 7, 8, 9, 10, 11, 12, 13, 14);
    }
}

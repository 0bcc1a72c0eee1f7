/** The queue, the turns in it, and sleeping. */
public final class TurnsTest {
    public static void main(String[] args) {
        turns();
        aloneAnew();
        yields();
        yieldAlone();
        newFirstBeginsAnew();
        wokenBeginsAnew();
        killedBehindTheFirst();
        sleeps();
        sleepsInTurn();
        sleepsForNothing();
        sleepsLongest();
        Check.done();
    }

    private static void turns() {
        PipeKernel k = Code.booted(3, 1, Code.FORK, Code.FORK, Code.jump(2));
        k.run(2);
        Check.queue("READY ones go to the end", k, 0, 1, 2);
        k.run(1);
        Check.queue("behind three instructions", k, 1, 2, 0);
        k.run(2);
        Check.queue("the turn of process 1", k, 1, 2, 0, 3);
        k.run(1);
        Check.queue("the turn of process 1 is over", k, 2, 0, 3, 1);
    }

    /** One that is alone begins a new turn when its turn is over. */
    private static void aloneAnew() {
        PipeKernel k = Code.booted(3, 1, Code.NOP, Code.NOP, Code.NOP, Code.NOP, Code.FORK, Code.jump(5));
        k.run(5);
        Check.queue("two of the second turn are done", k, 0, 1);
        k.run(1);
        Check.queue("the second turn is over", k, 1, 0);
    }

    private static void yields() {
        PipeKernel k = Code.booted(100, 1, Code.FORK, Code.YIELD, Code.jump(1));
        k.run(1);
        Check.queue("before", k, 0, 1);
        k.run(1);
        Check.queue("process 0 goes to the end", k, 1, 0);
        Check.same("PLACE grows", k.about(0, 0), 2);
        Check.same("it is READY", k.state(0), PipeKernel.READY);
        k.run(1);
        Check.queue("process 1 goes to the end", k, 0, 1);
        PipeKernel last = Code.booted(2, 1, Code.FORK, Code.YIELD, Code.jump(1));
        last.run(2);
        Check.queue("as the last one of a turn", last, 1, 0);
        last.run(1);
        Check.queue("the next one has a whole turn", last, 0, 1);
    }

    private static void yieldAlone() {
        PipeKernel k = Code.booted(3, 1, Code.NOP, Code.YIELD, Code.FORK, Code.NOP, Code.NOP, Code.jump(5));
        k.run(4);
        Check.queue("a new turn since YIELD: two are done", k, 0, 1);
        k.run(1);
        Check.queue("three are done", k, 1, 0);
    }

    private static void newFirstBeginsAnew() {
        // Process 0 waits as its second instruction; the child has a whole turn of three.
        PipeKernel k = Code.booted(3, 1, Code.FORK, Code.WAIT);
        k.run(2);
        Check.queue("the child is the first", k, 1);
        PipeKernel two = Code.booted(3, 1, Code.FORK, Code.jumpIfZero(4), Code.push(0), Code.READ,
            Code.FORK, Code.jump(5));
        two.run(3);
        Check.queue("the turn of process 0", two, 1, 0);
        two.run(2);
        Check.queue("the turn of process 1", two, 1, 0, 2);
        two.run(1);
        Check.queue("is over", two, 0, 2, 1);
        two.run(1);
        Check.queue("process 0 waits in its first instruction", two, 2, 1);
        two.run(2);
        Check.queue("process 2 has done two", two, 2, 1);
        two.run(1);
        Check.queue("and three", two, 1, 2);
    }

    /** It waited behind two instructions of a turn; woken, it has a whole turn. */
    private static void wokenBeginsAnew() {
        PipeKernel k = Code.booted(3, 1, Code.push(0), Code.READ, Code.FORK, Code.NOP, Code.jump(4));
        k.run(40);
        Check.queue("it waits", k);
        k.feed(1);
        Check.queue("it is READY", k, 0);
        k.run(2);
        Check.queue("READ and FORK are done", k, 0, 1);
        k.run(1);
        Check.queue("the turn is over", k, 1, 0);
    }

    private static void killedBehindTheFirst() {
        PipeKernel k = Code.booted(4, 1, Code.FORK, Code.FORK, Code.push(1), Code.KILL, Code.jump(4));
        k.run(3);
        Check.queue("before", k, 0, 1, 2);
        k.run(1);
        Check.queue("process 1 is off, and the turn over", k, 2, 0);
        PipeKernel longer = Code.booted(5, 1, Code.FORK, Code.FORK, Code.push(1), Code.KILL, Code.jump(4));
        longer.run(4);
        Check.queue("process 1 is off", longer, 0, 2);
        longer.run(1);
        Check.queue("the turn goes on counting", longer, 2, 0);
    }

    private static void sleeps() {
        PipeKernel k = Code.booted(1, 1, Code.push(3), Code.SLEEP, Code.NOP, Code.jump(3));
        k.run(2);
        Check.same("SLEEPS", k.state(0), PipeKernel.SLEEPS);
        Check.same("until", k.about(0, 4), 5);
        Check.stack("0 is pushed", k, 0, 0);
        Check.same("PLACE is behind it", k.about(0, 0), 2);
        Check.queue("off the queue", k);
        Check.same("steps while it sleeps", k.run(2), 2);
        Check.same("SLEEPS still", k.state(0), PipeKernel.SLEEPS);
        k.run(1);
        Check.same("READY at its time", k.state(0), PipeKernel.READY);
        Check.same("and it does an instruction in that step", k.about(0, 0), 3);
        Check.same("TIME", k.time(), 5);
    }

    /** Processes 0 .. 3 come to SLEEP one by one, in the order 2, 1, 3, 0; process n sleeps for sleeps[n]. */
    private static PipeKernel fourSleepers(int... sleeps) {
        PipeKernel k = Code.loaded(1, 1, Code.FORK, Code.DROP, Code.FORK, Code.DROP,
            Code.NUMBER, Code.push(60), Code.ADD, Code.FETCH_AT, Code.SLEEP, Code.NOP, Code.jump(9));
        for (int p = 0; p < 4; p++) {
            k.load(60 + p, sleeps[p]);
        }
        k.boot();
        k.run(40);
        return k;
    }

    private static void sleepsInTurn() {
        PipeKernel apart = fourSleepers(100, 100, 100, 100);
        int[] fell = new int[4];
        for (int p = 0; p < 4; p++) {
            fell[p] = apart.about(p, 4) - 100;
        }
        Check.isTrue("they fell asleep in that order", fell[2] < fell[1] && fell[1] < fell[3] && fell[3] < fell[0]);
        PipeKernel k = fourSleepers(60 - fell[0], 60 - fell[1], 60 - fell[2], 60 - fell[3]);
        k.run(19);
        Check.queue("all sleep until TIME 60", k);
        k.run(1);
        Check.queue("all woke by their numbers, and process 0 has done an instruction", k, 1, 2, 3, 0);
        PipeKernel two = fourSleepers(61 - fell[0], 61 - fell[1], 60 - fell[2], 61 - fell[3]);
        two.run(20);
        Check.queue("process 2 at TIME 60", two, 2);
        two.run(1);
        Check.queue("the others at TIME 61", two, 0, 1, 3, 2);
    }

    private static void sleepsForNothing() {
        PipeKernel k = Code.booted(9, 1, Code.push(0), Code.SLEEP, Code.push(-5), Code.SLEEP, Code.jump(4));
        k.run(2);
        Check.same("0: READY", k.state(0), PipeKernel.READY);
        Check.stack("0: 0 is pushed", k, 0, 0);
        k.run(2);
        Check.same("-5: READY", k.state(0), PipeKernel.READY);
        Check.stack("-5: 0 is pushed", k, 0, 0, 0);
        Check.same("-5: no time", k.about(0, 4), 0);
    }

    private static void sleepsLongest() {
        PipeKernel k = Code.loaded(1, 1, Code.fetch(100), Code.SLEEP);
        k.load(100, Integer.MAX_VALUE);
        k.boot();
        k.run(2);
        Check.same("at most", k.about(0, 4), Integer.MAX_VALUE);
        PipeKernel just = Code.loaded(1, 1, Code.fetch(100), Code.SLEEP);
        just.load(100, Integer.MAX_VALUE - 2);
        just.boot();
        just.run(2);
        Check.same("just so", just.about(0, 4), Integer.MAX_VALUE);
        PipeKernel less = Code.loaded(1, 1, Code.fetch(100), Code.SLEEP);
        less.load(100, Integer.MAX_VALUE - 3);
        less.boot();
        less.run(2);
        Check.same("one less", less.about(0, 4), Integer.MAX_VALUE - 1);
        Check.same("it sleeps on", less.run(40), 40);
    }
}

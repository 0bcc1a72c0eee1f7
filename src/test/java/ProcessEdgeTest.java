/** The sentences on the queue, a STEP, FORK, WAIT, KILL, SLEEP and ends that name a boundary, each with a test of its own. */
public final class ProcessEdgeTest {
    private static final int LEAST = Integer.MIN_VALUE;
    private static final int MOST = Integer.MAX_VALUE;

    public static void main(String[] args) {
        sixteenProcesses();
        quantumInstructions();
        quantumOfTheNext();
        aloneAnew();
        notReadyAnyMore();
        wakesBeforeTheInstruction();
        childBeforeItsParent();
        wokenBeforeTheTurnIsOver();
        timeGrowsWithoutAnInstruction();
        sleepersByTheirNumbers();
        sleepForNothing();
        sleepForOne();
        sleepAtMost();
        wokenByNothingElse();
        forkTakesTheLeast();
        forkOfTheLastNumber();
        endedHasItsNumber();
        forkAtTheLastPlace();
        waitsAtTheLastPlace();
        waitWithoutAChild();
        waitForTheLeast();
        waitForProcessZero();
        waitForTheLastNumber();
        grandchildIsNoChild();
        killNobody();
        killInEachState();
        killFirstAndLast();
        killItself();
        anyCode();
        endsOffTheQueue();
        endsWaitingForNothing();
        goneWithoutAParent();
        childrenWithoutProcessZero();
        childrenOfAnEndedProcessZero();
        endedChildrenAreGone();
        endedChildrenGoToZero();
        parentThenZero();
        readersThenParentThenZero();
        zeroOnce();
        Check.done();
    }

    /** Process 0 makes 15 children, each of which goes on at 20, with 0 on its stack; process 0 then at 6, with nothing. */
    private static int[] fifteen(int[] atSix, int[] atTwenty) {
        return Code.pieces(
            0, Code.code(Code.FORK, Code.TWICE, Code.jumpIfZero(20), Code.push(15), Code.SAME, Code.jumpIfZero(0)),
            6, atSix,
            20, atTwenty);
    }

    /** "PROCESSES have numbers 0 .. 15." "-1 if no number is free." */
    private static void sixteenProcesses() {
        PipeKernel k = Code.booted(100, 1, fifteen(Code.code(Code.FORK), Code.code(Code.jump(20))));
        Code.runTo(k, 0, 6);
        Check.queue("all are READY", k, 0, 1, 2, 3, 4, 5, 6, 7, 8, 9, 10, 11, 12, 13, 14, 15);
        k.run(1);
        Check.stack("no number is free", k, 0, -1);
        Check.same("PLACE", k.about(0, 0), 7);
        Check.queue("no child", k, 0, 1, 2, 3, 4, 5, 6, 7, 8, 9, 10, 11, 12, 13, 14, 15);
    }

    /** "Has done QUANTUM instructions since it became the first one": neither one less nor one more. */
    private static void quantumInstructions() {
        for (int quantum : new int[] {1, 2, 3, 50, 99, 100}) {
            PipeKernel k = Code.booted(quantum, 1, Code.FORK, Code.jump(1));
            Code.steps(k, quantum - 1);
            Check.same("one less than " + quantum, k.queue(0), 0);
            k.run(1);
            Check.queue("quantum " + quantum, k, 1, 0);
        }
    }

    private static void quantumOfTheNext() {
        for (int quantum : new int[] {1, 2, 3, 50, 99, 100}) {
            PipeKernel k = Code.booted(quantum, 1, Code.FORK, Code.jump(1));
            Code.steps(k, quantum);
            for (int turn = 1; turn <= 3; turn++) {
                int runs = turn % 2;
                Check.queue("turn " + turn, k, runs, 1 - runs);
                Code.steps(k, quantum - 1);
                Check.queue("turn " + turn + ", one less than " + quantum, k, runs, 1 - runs);
                k.run(1);
            }
        }
    }

    /** "One that is alone there becomes the first one anew": its count begins anew each QUANTUM instructions. */
    private static void aloneAnew() {
        for (int before = 0; before <= 8; before++) {
            int[] program = new int[12];
            program[before] = Code.FORK;
            program[11] = Code.jump(11);
            PipeKernel k = Code.booted(4, 1, program);
            Code.steps(k, before + 1);
            int left = 3 - before % 4;
            Code.steps(k, left);
            Check.queue("FORK behind " + before, k, 1, 0);
            PipeKernel less = Code.booted(4, 1, program);
            Code.steps(less, before + 1 + Math.max(0, left - 1));
            Check.same("FORK behind " + before + ", one less", less.queue(0), left == 0 ? 1 : 0);
        }
    }

    /** "(An instruction in which it begins to wait or sleep, or ends, takes it off the queue.)", as the last of a turn, too. */
    private static void notReadyAnyMore() {
        int[][] leave = {Code.code(Code.push(0), Code.READ), Code.code(Code.push(5), Code.SLEEP),
            Code.code(Code.NOP, Code.WAIT), Code.code(Code.push(5), Code.EXIT), Code.code(Code.NOP, 200),
            Code.code(Code.push(0), Code.KILL)};
        for (int[] how : leave) {
            for (int quantum = 3; quantum <= 4; quantum++) {
                PipeKernel k = Code.booted(quantum, 1, Code.FORK, how[0], how[1]);
                k.run(2);
                Check.queue("before", k, 0, 1);
                k.run(1);
                Check.queue("off the queue", k, 1);
                k.run(1);
                Check.queue("the next one's turn begins anew", k, 1);
            }
        }
        PipeKernel full = Code.booted(5, 1, Code.PIPE, Code.push(3), Code.WRITE, Code.push(3), Code.WRITE);
        full.run(5);
        Check.queue("WRITE", full);
    }

    /** "Those whose time has come become READY", before the first one does its instruction and goes to the queue's end. */
    private static void wakesBeforeTheInstruction() {
        PipeKernel k = Code.booted(1, 1, Code.FORK, Code.jumpIfZero(3), Code.jump(2), Code.push(3), Code.SLEEP, Code.jump(5));
        Code.steps(k, 6);
        Check.same("process 1 sleeps", k.state(1), PipeKernel.SLEEPS);
        Check.same("until", k.about(1, 4), 9);
        k.run(2);
        Check.queue("process 0 is alone", k, 0);
        k.run(1);
        Check.queue("process 1 woke, then process 0 went behind it", k, 1, 0);
        Check.same("process 1 has done nothing yet", k.about(1, 0), 5);
    }

    /** "One that becomes READY goes to its end": a child before its parent's turn is over. */
    private static void childBeforeItsParent() {
        PipeKernel k = Code.booted(1, 1, Code.FORK, Code.FORK, Code.jump(2));
        k.run(1);
        Check.queue("FORK", k, 1, 0);
        k.run(1);
        Check.queue("process 1 has process 2", k, 0, 2, 1);
        k.run(1);
        Check.queue("process 0 has process 3", k, 2, 1, 3, 0);
    }

    /** So too one that is woken by the last instruction of a turn: by a word, by room for one, and by a CLOSE. */
    private static void wokenBeforeTheTurnIsOver() {
        int[] reads = Code.code(Code.push(3), Code.CLOSE, Code.push(2), Code.READ, Code.jump(24));
        int[] writes = Code.code(Code.push(3), Code.WRITE, Code.push(3), Code.WRITE, Code.jump(24));
        int[][] children = {reads, reads, writes};
        int[][] wakes = {Code.code(Code.push(3), Code.WRITE), Code.code(Code.push(3), Code.CLOSE),
            Code.code(Code.push(2), Code.READ)};
        for (int i = 0; i < wakes.length; i++) {
            PipeKernel k = Code.booted(1, 1, Code.pieces(
                0, Code.code(Code.PIPE, Code.FORK, Code.jumpIfZero(20)),
                10, wakes[i], 12, Code.code(Code.jump(12)),
                20, children[i]));
            Code.runTo(k, 0, 11);
            Check.queue("process 1 waits", k, 0);
            k.run(1);
            Check.queue("process 1 woke, then process 0 went behind it", k, 1, 0);
        }
    }

    /** "TIME grows by 1" in each STEP, also when the queue is empty. */
    private static void timeGrowsWithoutAnInstruction() {
        PipeKernel k = Code.booted(1, 1, Code.push(10), Code.SLEEP, Code.jump(2));
        k.run(2);
        for (int time = 3; time <= 11; time++) {
            Check.same("a step", k.run(1), 1);
            Check.same("TIME", k.time(), time);
            Check.same("SLEEPS", k.state(0), PipeKernel.SLEEPS);
        }
        k.run(1);
        Check.same("READY", k.state(0), PipeKernel.READY);
        Check.same("TIME", k.time(), 12);
    }

    /** Process p sleeps for table[p]; none wakes before all sleep. */
    private static PipeKernel sixteenSleepers(int[] table) {
        PipeKernel k = Code.loaded(1, 1, fifteen(Code.code(Code.jump(20)),
            Code.code(Code.NUMBER, Code.push(60), Code.ADD, Code.FETCH_AT, Code.SLEEP, Code.NOP, Code.jump(25))));
        for (int p = 0; p < 16; p++) {
            k.load(60 + p, table[p]);
        }
        k.boot();
        return k;
    }

    /** "By their times, then by their numbers": all sixteen sleep until the same time, but fell asleep in another order. */
    private static void sleepersByTheirNumbers() {
        int[] table = new int[16];
        java.util.Arrays.fill(table, 5000);
        PipeKernel k = sixteenSleepers(table);
        Code.steps(k, 999);
        boolean ordered = true;
        for (int p = 0; p < 16; p++) {
            Check.same("it sleeps", k.state(p), PipeKernel.SLEEPS);
            table[p] = 1000 - (k.about(p, 4) - 5000);
            ordered = ordered && (p == 0 || table[p] <= table[p - 1]);
        }
        Check.isTrue("they fell asleep in another order", !ordered);
        PipeKernel same = sixteenSleepers(table);
        Code.steps(same, 999);
        Check.queue("all sleep", same);
        for (int p = 0; p < 16; p++) {
            Check.same("until", same.about(p, 4), 1000);
        }
        same.run(1);
        Check.queue("by their numbers; the first one has had its turn", same, 1, 2, 3, 4, 5, 6, 7, 8, 9, 10, 11, 12, 13, 14,
            15, 0);
    }

    private static PipeKernel sleeper(int x) {
        PipeKernel k = Code.loaded(9, 1, Code.fetch(100), Code.SLEEP, Code.NOP, Code.jump(3));
        k.load(100, x);
        k.boot();
        k.run(2);
        return k;
    }

    /** "If x is above 0, it SLEEPS." */
    private static void sleepForNothing() {
        for (int x : new int[] {0, -1, LEAST}) {
            PipeKernel k = sleeper(x);
            Check.same("READY behind SLEEP of " + x, k.state(0), PipeKernel.READY);
            Check.stack("0 is pushed", k, 0, 0);
            Check.same("no time", k.about(0, 4), 0);
            Check.same("PLACE", k.about(0, 0), 2);
            Check.queue("on the queue", k, 0);
        }
    }

    /** "Until TIME + x": with x = 1 it is READY in the next step, and goes on in it if none is before it. */
    private static void sleepForOne() {
        PipeKernel k = sleeper(1);
        Check.same("SLEEPS", k.state(0), PipeKernel.SLEEPS);
        Check.same("until", k.about(0, 4), 3);
        Check.stack("0 is pushed", k, 0, 0);
        Check.queue("off the queue", k);
        k.run(1);
        Check.same("READY", k.state(0), PipeKernel.READY);
        Check.same("it went on", k.about(0, 0), 3);
        Check.same("no time any more", k.about(0, 4), 0);
    }

    /** "(at most 2147483647)." */
    private static void sleepAtMost() {
        Check.same("MOST", sleeper(MOST).about(0, 4), MOST);
        Check.same("MOST - 1", sleeper(MOST - 1).about(0, 4), MOST);
        Check.same("MOST - 2", sleeper(MOST - 2).about(0, 4), MOST);
        Check.same("MOST - 3", sleeper(MOST - 3).about(0, 4), MOST - 1);
        Check.same("it sleeps", sleeper(MOST).run(40), 40);
    }

    /** A sleeper is woken by its time alone: not by a word, by shutting IN, or by the end of a child. */
    private static void wokenByNothingElse() {
        PipeKernel k = Code.booted(1, 1, Code.FORK, Code.jumpIfZero(4), Code.push(50), Code.SLEEP, Code.push(1), Code.EXIT);
        k.run(20);
        Check.same("the child ENDED", k.state(1), PipeKernel.ENDED);
        k.feed(1);
        k.shut();
        Check.same("SLEEPS", k.state(0), PipeKernel.SLEEPS);
        Check.queue("SLEEPS", k);
    }

    /** "The least free number": 3, then 9, when these two are gone. */
    private static void forkTakesTheLeast() {
        PipeKernel k = Code.booted(100, 1, fifteen(
            Code.code(Code.push(9), Code.KILL, Code.push(3), Code.KILL, Code.WAIT, Code.WAIT, Code.FORK, Code.FORK, Code.jump(14)),
            Code.code(Code.READ)));
        Code.runTo(k, 0, 14);
        Check.stack("WAIT and FORK", k, 0, 0, 0, -9, 3, -9, 9, 3, 9);
        Check.stack("process 3 anew", k, 3, 0, 0, -9, 3, -9, 9, 0);
        Check.stack("process 9 anew", k, 9, 0, 0, -9, 3, -9, 9, 3, 0);
    }

    private static void forkOfTheLastNumber() {
        PipeKernel k = Code.booted(100, 1, fifteen(
            Code.code(Code.push(15), Code.KILL, Code.WAIT, Code.FORK, Code.jump(10)), Code.code(Code.READ)));
        Code.runTo(k, 0, 10);
        Check.stack("15 is free again", k, 0, 0, -9, 15, 15);
        Check.same("READY", k.state(15), PipeKernel.READY);
        Check.same("a child of process 0", k.about(15, 2), 0);
    }

    /** "ENDED ... (it is there till it is gone)": its number is not free. */
    private static void endedHasItsNumber() {
        PipeKernel k = Code.booted(100, 1, fifteen(
            Code.code(Code.push(15), Code.KILL, Code.FORK, Code.WAIT, Code.FORK, Code.jump(11)), Code.code(Code.READ)));
        Code.runTo(k, 0, 9);
        Check.stack("none is free", k, 0, 0, -1);
        Check.same("15 is there", k.state(15), PipeKernel.ENDED);
        Code.runTo(k, 0, 11);
        Check.stack("it is gone, and free", k, 0, 0, -1, -9, 15, 15);
    }

    /** "PLACE, which is behind this instruction for both": behind place 127 there is no instruction for either. */
    private static void forkAtTheLastPlace() {
        PipeKernel k = Code.loaded(1, 1, Code.jump(127));
        k.load(127, Code.FORK);
        k.boot();
        k.run(2);
        Check.same("PLACE of the parent", k.about(0, 0), 128);
        Check.same("PLACE of the child", k.about(1, 0), 128);
        Check.queue("both are READY", k, 1, 0);
        k.run(1);
        Check.same("FAULT 4 of the child", k.about(1, 3), -1004);
        k.run(1);
        Check.same("FAULT 4 of the parent: both are gone", k.state(0) + k.state(1), 0);
    }

    /** "They do the same instruction again": PLACE stays at 127 while it waits, and is 128 behind it. */
    private static void waitsAtTheLastPlace() {
        PipeKernel k = Code.loaded(1, 1, Code.push(0), Code.jump(127));
        k.load(127, Code.READ);
        k.boot();
        k.run(40);
        Check.same("it waits", k.state(0), PipeKernel.READS);
        Check.same("PLACE stays", k.about(0, 0), 127);
        k.feed(3);
        k.run(1);
        Check.stack("it has read", k, 0, 3, 1);
        Check.same("PLACE grows", k.about(0, 0), 128);
    }

    /** "0 and -1 if it has no child." */
    private static void waitWithoutAChild() {
        PipeKernel k = Code.booted(100, 1, Code.WAIT, Code.FORK, Code.jumpIfZero(6), Code.WAIT, Code.WAIT, Code.jump(5),
            Code.WAIT, Code.push(3), Code.EXIT);
        k.run(1);
        Check.stack("never a child", k, 0, 0, -1);
        Code.runTo(k, 0, 5);
        Check.stack("its last child is gone", k, 0, 0, -1, 3, 1, 0, -1);
    }

    /** "Of its children that ENDED the one with the least number is gone": not the first one that ENDED. */
    private static void waitForTheLeast() {
        PipeKernel k = Code.booted(100, 1, fifteen(
            Code.code(Code.push(15), Code.KILL, Code.push(2), Code.KILL, Code.push(7), Code.KILL,
                Code.WAIT, Code.WAIT, Code.WAIT, Code.jump(15)), Code.code(Code.READ)));
        Code.runTo(k, 0, 13);
        Check.stack("2 first", k, 0, 0, 0, 0, -9, 2);
        Check.same("2 is gone", k.state(2), 0);
        Check.same("7 is there", k.state(7), PipeKernel.ENDED);
        Code.runTo(k, 0, 15);
        Check.stack("then 7, then 15", k, 0, 0, 0, 0, -9, 2, -9, 7, -9, 15);
    }

    /** The least number is 0: process 0 anew is a child of process 1, and ENDED, as is process 2. */
    private static void waitForProcessZero() {
        PipeKernel k = Code.booted(100, 1, Code.pieces(
            0, Code.code(Code.FORK, Code.jumpIfZero(10), Code.push(1), Code.EXIT),
            10, Code.code(Code.FORK, Code.NUMBER, Code.jumpIfZero(30), Code.FORK, Code.jumpIfZero(30), Code.YIELD, Code.WAIT,
                Code.WAIT, Code.WAIT, Code.jump(19)),
            30, Code.code(Code.NUMBER, Code.push(70), Code.ADD, Code.EXIT)));
        Code.runTo(k, 1, 16);
        Check.same("process 0 ENDED", k.state(0), PipeKernel.ENDED);
        Check.same("process 2 ENDED", k.state(2), PipeKernel.ENDED);
        Code.runTo(k, 1, 19);
        Check.stack("0, then 2, then none", k, 1, 0, 70, 0, 72, 2, 0, -1);
        Check.same("gone", k.state(0) + k.state(2), 0);
        PipeKernel waits = Code.booted(100, 1, Code.pieces(
            0, Code.code(Code.FORK, Code.jumpIfZero(10), Code.push(1), Code.EXIT),
            10, Code.code(Code.FORK, Code.NUMBER, Code.jumpIfZero(30), Code.WAIT, Code.jump(14)),
            30, Code.code(Code.push(9), Code.EXIT)));
        Code.runTo(waits, 0, 31);
        Check.same("process 1 waits for it", waits.state(1), PipeKernel.WAITS);
        Code.runTo(waits, 1, 14);
        Check.stack("and gets it", waits, 1, 0, 9, 0);
    }

    private static void waitForTheLastNumber() {
        PipeKernel k = Code.booted(100, 1, fifteen(
            Code.code(Code.WAIT, Code.jump(7)),
            Code.code(Code.NUMBER, Code.push(15), Code.SAME, Code.jumpIfZero(26), Code.push(LEAST >> 8), Code.EXIT,
                Code.READ)));
        Code.runTo(k, 0, 7);
        Check.stack("the last number", k, 0, LEAST >> 8, 15);
        Check.same("gone", k.state(15), 0);
        Check.same("the others wait", k.state(14), PipeKernel.READS);
    }

    /** A child of its child is not its child: it has none when its only child is gone. */
    private static void grandchildIsNoChild() {
        PipeKernel k = Code.booted(100, 1, Code.pieces(
            0, Code.code(Code.FORK, Code.jumpIfZero(10), Code.push(99), Code.SLEEP),
            // Process 1 has process 2, which has process 3 that ENDED; 2 goes on.
            10, Code.code(Code.FORK, Code.jumpIfZero(20), Code.YIELD, Code.YIELD, Code.WAIT, Code.jump(15)),
            20, Code.code(Code.FORK, Code.jumpIfZero(30), Code.YIELD, Code.push(0), Code.READ),
            30, Code.code(Code.push(3), Code.EXIT)));
        Code.steps(k, 60);
        Check.same("process 3 ENDED", k.state(3), PipeKernel.ENDED);
        Check.same("process 2 is its parent", k.about(3, 2), 2);
        Check.same("process 1 waits for process 2", k.state(1), PipeKernel.WAITS);
    }

    private static PipeKernel killer(int x) {
        PipeKernel k = Code.loaded(100, 1, Code.fetch(100), Code.KILL, Code.jump(2));
        k.load(100, x);
        k.boot();
        k.run(2);
        return k;
    }

    /** KILL: "process x, if it is there and not ENDED, ..., else -1." */
    private static void killNobody() {
        for (int x : new int[] {1, 15, 16, -1, -16, LEAST, MOST, 256, 65536}) {
            PipeKernel k = killer(x);
            Check.stack("KILL of " + x, k, 0, -1);
            Check.same("READY", k.state(0), PipeKernel.READY);
        }
        PipeKernel ended = Code.booted(100, 1, Code.FORK, Code.jumpIfZero(8), Code.YIELD, Code.push(1), Code.KILL, Code.WAIT,
            Code.push(1), Code.KILL, Code.push(5), Code.EXIT);
        Code.runTo(ended, 0, 5);
        Check.stack("of one that ENDED", ended, 0, -1);
        Check.same("its CODE stays", ended.about(1, 3), 5);
        Code.runTo(ended, 0, 8);
        Check.stack("of one that is gone", ended, 0, -1, 5, 1, -1);
    }

    /** "Ends with CODE -9", whatever it does; PLACE and stack stay, and it waits for nothing any more. */
    private static void killInEachState() {
        int[][] dos = {Code.code(Code.NOP, Code.jump(21)), Code.code(Code.push(0), Code.READ),
            Code.code(Code.push(3), Code.WRITE), Code.code(Code.FORK, Code.WAIT), Code.code(Code.push(90), Code.SLEEP)};
        int[] states = {PipeKernel.READY, PipeKernel.READS, PipeKernel.WRITES, PipeKernel.WAITS, PipeKernel.SLEEPS};
        for (int i = 0; i < dos.length; i++) {
            PipeKernel k = Code.booted(9, 1, Code.pieces(
                0, Code.code(Code.PIPE, Code.push(3), Code.WRITE, Code.FORK, Code.jumpIfZero(20), Code.NOP, Code.NOP, Code.NOP,
                    Code.NOP, Code.NOP, Code.NOP, Code.NOP, Code.push(1), Code.KILL, Code.jump(14)),
                20, dos[i],
                22, Code.code(Code.jump(22))));
            Code.runTo(k, 0, 13);
            Check.same("state", k.state(1), states[i]);
            int place = k.about(1, 0);
            int words = k.about(1, 1);
            k.run(1);
            Check.same("0 is pushed", k.stack(0, 0), 0);
            Check.same("ENDED in state " + states[i], k.state(1), PipeKernel.ENDED);
            Check.same("CODE", k.about(1, 3), -9);
            Check.same("PLACE stays", k.about(1, 0), place);
            Check.same("the stack stays", k.about(1, 1), words);
            Check.same("no time", k.about(1, 4), 0);
            Check.same("no descriptor", k.about(1, 5), 0);
            Check.same("none waits for the pipe", k.pipe(0, 3) + k.pipe(0, 4), 0);
            for (int at = 0; at < 16; at++) {
                Check.isTrue("in no queue", k.queue(at) != 1);
            }
            k.feed(5);
            k.shut();
            Code.steps(k, 200);
            Check.same("nothing wakes it", k.state(1), PipeKernel.ENDED);
        }
    }

    private static void killFirstAndLast() {
        PipeKernel k = Code.booted(100, 1, fifteen(Code.code(Code.push(0), Code.READ), Code.code(
            Code.NUMBER, Code.push(1), Code.SAME, Code.jumpIfZero(40), Code.push(15), Code.KILL, Code.push(0), Code.KILL,
            Code.jump(28))));
        Code.runTo(k, 1, 28);
        Check.stack("both", k, 1, 0, 0, 0);
        Check.same("process 0 is gone", k.state(0), 0);
        Check.same("process 15, which ENDED, is gone with it", k.state(15), 0);
        Check.same("process 14 is there", k.state(14), PipeKernel.READY);
        Check.same("without a parent", k.about(14, 2), PipeKernel.NONE);
    }

    /** "(nothing is pushed if it is itself)"; "PLACE grows by 1 (also of EXIT and of a KILL of itself)". */
    private static void killItself() {
        PipeKernel k = Code.booted(100, 1, Code.FORK, Code.jumpIfZero(4), Code.YIELD, Code.jump(3), Code.push(6), Code.NUMBER,
            Code.KILL);
        Code.runTo(k, 0, 3);
        Check.same("ENDED", k.state(1), PipeKernel.ENDED);
        Check.same("CODE", k.about(1, 3), -9);
        Check.same("PLACE", k.about(1, 0), 7);
        Check.stack("nothing is pushed", k, 1, 6);
        PipeKernel last = Code.loaded(100, 1, Code.FORK, Code.jumpIfZero(4), Code.YIELD, Code.jump(3), Code.push(6),
            Code.jump(127));
        last.load(127, Code.EXIT);
        last.boot();
        Code.runTo(last, 0, 3);
        Check.same("PLACE behind EXIT", last.about(1, 0), 128);
        Check.same("CODE", last.about(1, 3), 6);
    }

    /** "EXIT: pop x; it ends with CODE x", any int. */
    private static void anyCode() {
        for (int code : new int[] {0, -1, 1, LEAST, MOST, -1001, -9}) {
            PipeKernel k = Code.loaded(100, 1, Code.FORK, Code.jumpIfZero(5), Code.YIELD, Code.WAIT, Code.jump(4),
                Code.fetch(100), Code.EXIT);
            k.load(100, code);
            k.boot();
            Code.runTo(k, 0, 3);
            Check.same("ENDED", k.state(1), PipeKernel.ENDED);
            Check.same("CODE", k.about(1, 3), code);
            Code.runTo(k, 0, 4);
            Check.stack("WAIT", k, 0, code, 1);
        }
    }

    /** "It is in no queue": out of the midst, and from the end of it. */
    private static void endsOffTheQueue() {
        PipeKernel k = Code.booted(100, 1, fifteen(Code.code(Code.push(8), Code.KILL, Code.push(15), Code.KILL, Code.push(1),
            Code.KILL), Code.code(Code.jump(20))));
        Code.runTo(k, 0, 12);
        Check.queue("without 8, 15 and 1", k, 0, 2, 3, 4, 5, 6, 7, 9, 10, 11, 12, 13, 14);
    }

    /** "And waits for nothing any more": it holds the last reading end itself, and is not woken when that is closed. */
    private static void endsWaitingForNothing() {
        PipeKernel k = Code.booted(100, 1, Code.pieces(
            0, Code.code(Code.FORK, Code.jumpIfZero(20), Code.YIELD, Code.push(1), Code.KILL, Code.jump(5)),
            20, Code.code(Code.PIPE, Code.push(3), Code.WRITE, Code.push(3), Code.WRITE)));
        Code.runTo(k, 0, 4);
        Check.same("it waits to write", k.state(1), PipeKernel.WRITES);
        k.run(1);
        Check.queue("it is not woken", k, 0);
        Check.same("ENDED", k.state(1), PipeKernel.ENDED);
        Check.same("the pipe is gone", k.pipe(0, 0) + k.pipe(0, 1) + k.pipe(0, 2) + k.pipe(0, 4), 0);
    }

    /** "It is ENDED, or gone, if it has no parent." */
    private static void goneWithoutAParent() {
        int[][] ends = {Code.code(Code.push(1), Code.EXIT), Code.code(Code.NOP, 200), Code.code(Code.NUMBER, Code.KILL)};
        for (int[] end : ends) {
            PipeKernel k = Code.booted(1, 1, end);
            Check.same("two steps", k.run(40), 2);
            Check.same("gone", k.state(0), 0);
            Check.noState("gone", () -> k.about(0, 3));
            Check.noIndex("gone", () -> k.stack(0, 0));
            Check.noIndex("gone", () -> k.memory(0, 0));
            Check.noIndex("gone", () -> k.descriptor(0, 0));
            Check.same("no step more", k.run(40), 0);
        }
    }

    /** "If that is there ... (else they have no parent)": process 0 is gone when process 1 ends, whose child is 2. */
    private static void childrenWithoutProcessZero() {
        PipeKernel k = Code.booted(100, 1, Code.pieces(
            0, Code.code(Code.FORK, Code.jumpIfZero(10), Code.YIELD, Code.push(1), Code.EXIT),
            10, Code.code(Code.FORK, Code.jumpIfZero(20), Code.YIELD, Code.push(1), Code.EXIT),
            20, Code.code(Code.YIELD, Code.jump(20))));
        Code.runTo(k, 1, 14);
        Check.same("process 0 is gone", k.state(0), 0);
        Check.same("process 1 has no parent", k.about(1, 2), PipeKernel.NONE);
        Check.same("process 2 is process 1's", k.about(2, 2), 1);
        k.run(1);
        Check.same("process 1 is gone", k.state(1), 0);
        Check.same("process 2 has no parent", k.about(2, 2), PipeKernel.NONE);
        Check.same("process 2 goes on", k.run(40), 40);
        // So too if process 1 is there: 2 ends, whose child is 3.
        PipeKernel deeper = Code.booted(100, 1, Code.pieces(
            0, Code.code(Code.FORK, Code.jumpIfZero(10), Code.YIELD, Code.YIELD, Code.push(1), Code.EXIT),
            10, Code.code(Code.FORK, Code.jumpIfZero(20), Code.push(0), Code.READ),
            20, Code.code(Code.FORK, Code.jumpIfZero(30), Code.YIELD, Code.push(1), Code.EXIT),
            30, Code.code(Code.YIELD, Code.jump(30))));
        Code.runTo(deeper, 2, 24);
        Check.same("process 0 is gone", deeper.state(0), 0);
        Check.same("process 3 is process 2's", deeper.about(3, 2), 2);
        deeper.run(1);
        Check.same("process 2 is ENDED: process 1 is its parent", deeper.state(2), PipeKernel.ENDED);
        Check.same("process 3 has no parent", deeper.about(3, 2), PipeKernel.NONE);
    }

    /** "Not ENDED": process 0 anew ENDED as a child of process 1, and gets no children any more. */
    private static void childrenOfAnEndedProcessZero() {
        PipeKernel k = Code.booted(100, 1, Code.pieces(
            0, Code.code(Code.FORK, Code.jumpIfZero(10), Code.push(1), Code.EXIT),
            10, Code.code(Code.FORK, Code.NUMBER, Code.jumpIfZero(40), Code.FORK, Code.jumpIfZero(20), Code.YIELD, Code.jump(15)),
            20, Code.code(Code.FORK, Code.jumpIfZero(30), Code.FORK, Code.jumpIfZero(40), Code.YIELD, Code.push(1), Code.EXIT),
            30, Code.code(Code.YIELD, Code.jump(30)),
            40, Code.code(Code.push(1), Code.EXIT)));
        Code.runTo(k, 2, 26);
        Check.same("process 0 ENDED", k.state(0), PipeKernel.ENDED);
        Check.same("process 3 is process 2's", k.about(3, 2), 2);
        Check.same("process 4 ENDED", k.state(4), PipeKernel.ENDED);
        k.run(1);
        Check.same("process 2 ENDED", k.state(2), PipeKernel.ENDED);
        Check.same("process 3 has no parent", k.about(3, 2), PipeKernel.NONE);
        Check.same("process 4 is gone", k.state(4), 0);
    }

    /** "Those that ENDED are gone then": of process 0's children, when it ends itself. */
    private static void endedChildrenAreGone() {
        PipeKernel k = Code.booted(100, 1, fifteen(
            Code.code(Code.push(3), Code.KILL, Code.push(15), Code.KILL, Code.EXIT), Code.code(Code.READ)));
        Code.runTo(k, 0, 10);
        Check.same("3 ENDED", k.state(3), PipeKernel.ENDED);
        Check.same("15 ENDED", k.state(15), PipeKernel.ENDED);
        k.run(1);
        Check.same("0 is gone", k.state(0), 0);
        for (int p = 1; p < 16; p++) {
            boolean ended = p == 3 || p == 15;
            Check.same("process " + p, k.state(p), ended ? 0 : PipeKernel.READY);
            if (!ended) {
                Check.same("parent of " + p, k.about(p, 2), PipeKernel.NONE);
            }
        }
    }

    /** "Its children become those of process 0": those that ENDED, too; process 0, which does not wait, takes them later. */
    private static void endedChildrenGoToZero() {
        PipeKernel k = Code.booted(100, 1, Code.pieces(
            0, Code.code(Code.FORK, Code.jumpIfZero(10), Code.push(60), Code.SLEEP, Code.DROP, Code.WAIT, Code.WAIT, Code.WAIT,
                Code.jump(8)),
            10, Code.code(Code.FORK, Code.jumpIfZero(20), Code.YIELD, Code.push(11), Code.EXIT),
            20, Code.code(Code.push(22), Code.EXIT)));
        Code.runTo(k, 1, 14);
        Check.same("process 2 ENDED", k.state(2), PipeKernel.ENDED);
        Check.same("process 1 is its parent", k.about(2, 2), 1);
        k.run(1);
        Check.same("process 0 is its parent", k.about(2, 2), 0);
        Check.same("process 0 sleeps on", k.state(0), PipeKernel.SLEEPS);
        Code.steps(k, 60);
        Check.stack("both, then none", k, 0, 11, 1, 22, 2, 0, -1);
    }

    /** "A parent that waits for a child becomes READY; then process 0, if it waits for a child still and has got one." */
    private static void parentThenZero() {
        int[] program = Code.pieces(
            0, Code.code(Code.FORK, Code.jumpIfZero(10), Code.WAIT, Code.jump(3)),
            10, Code.code(Code.FORK, Code.jumpIfZero(20), Code.WAIT, Code.jump(13)),
            20, Code.code(Code.FORK, Code.jumpIfZero(30), Code.YIELD, Code.push(2), Code.EXIT),
            30, Code.code(Code.push(3), Code.EXIT));
        PipeKernel k = Code.booted(100, 1, program);
        Code.runTo(k, 2, 24);
        Check.same("0 waits", k.state(0), PipeKernel.WAITS);
        Check.same("1 waits", k.state(1), PipeKernel.WAITS);
        k.run(1);
        Check.queue("1, then 0", k, 1, 0);
        // The child of process 2 has not ENDED: process 0 gets it, but goes on waiting.
        program[30] = Code.YIELD;
        program[31] = Code.jump(30);
        PipeKernel alive = Code.booted(100, 1, program);
        Code.runTo(alive, 2, 24);
        alive.run(1);
        Check.same("process 3 is process 0's", alive.about(3, 2), 0);
        Check.same("process 0 waits still", alive.state(0), PipeKernel.WAITS);
        Check.queue("process 1 alone is READY", alive, 3, 1);
    }

    /** First "its descriptors are closed", which wakes process 3; then its parent, process 1; then process 0. */
    private static void readersThenParentThenZero() {
        PipeKernel k = Code.booted(100, 1, Code.pieces(
            0, Code.code(Code.PIPE, Code.FORK, Code.jumpIfZero(20), Code.push(3), Code.CLOSE, Code.WAIT),
            20, Code.code(Code.FORK, Code.jumpIfZero(40), Code.FORK, Code.jumpIfZero(60), Code.push(3), Code.CLOSE, Code.WAIT),
            40, Code.code(Code.FORK, Code.jumpIfZero(80), Code.YIELD, Code.push(1), Code.EXIT),
            60, Code.code(Code.push(3), Code.CLOSE, Code.push(2), Code.READ),
            80, Code.code(Code.push(9), Code.EXIT)));
        Code.runTo(k, 2, 44);
        Check.same("process 0 waits", k.state(0), PipeKernel.WAITS);
        Check.same("process 1 waits", k.state(1), PipeKernel.WAITS);
        Check.same("process 3 reads", k.state(3), PipeKernel.READS);
        Check.same("process 4 ENDED", k.state(4), PipeKernel.ENDED);
        k.run(1);
        Check.queue("3, then 1, then 0", k, 3, 1, 0);
    }

    /** The parent is process 0, and it has got another one that ENDED: it becomes READY once. */
    private static void zeroOnce() {
        PipeKernel k = Code.booted(100, 1, Code.pieces(
            0, Code.code(Code.FORK, Code.jumpIfZero(10), Code.WAIT, Code.WAIT, Code.jump(4)),
            10, Code.code(Code.FORK, Code.jumpIfZero(20), Code.YIELD, Code.push(11), Code.EXIT),
            20, Code.code(Code.push(22), Code.EXIT)));
        Code.runTo(k, 1, 14);
        Check.same("process 0 waits", k.state(0), PipeKernel.WAITS);
        k.run(1);
        Check.queue("once", k, 0);
        k.run(2);
        Check.stack("both", k, 0, 11, 1, 22, 2);
    }
}

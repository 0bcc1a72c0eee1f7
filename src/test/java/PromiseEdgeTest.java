/** The sentences of promises 1 to 16 that name a boundary, each with a test of its own. Refused calls: RefusalTest. */
public final class PromiseEdgeTest {
    private static final int LEAST = Integer.MIN_VALUE;
    private static final int MOST = Integer.MAX_VALUE;

    public static void main(String[] args) {
        nearestQuantum();
        nearestCapacity();
        nothingIsThereYet();
        loadFirstAndLastPlace();
        loadAnyWord();
        loadAgain();
        loadUntilBoot();
        bootOnce();
        bootWithAnEmptyProgram();
        runNone();
        runAtMost();
        runAsLongAsReadyOrSleeps();
        runBeforeBoot();
        feedCounts();
        feedHundred();
        feedRoundAndRound();
        feedBeforeBoot();
        shutOnce();
        shutWhenFull();
        timeBegins();
        stateFirstAndLast();
        aboutPlaceOutside();
        aboutWords();
        aboutParent();
        aboutCodeOnlyIfEnded();
        aboutTimeOnlyIfItSleeps();
        aboutDescriptors();
        stackFirstAndLast();
        stackOfOneThatEnded();
        memoryFirstAndLast();
        memoryOfOneThatEnded();
        queueBehindItsEnd();
        queueOfSixteen();
        descriptorFirstAndLast();
        pipeFirstAndLast();
        pipeThatIsNotThere();
        outsCountOn();
        outBelow500();
        outOfTheLatest500();
        outAnyWord();
        callNumber512();
        Check.done();
    }

    /** 1: "QUANTUM the nearest of 1 .. 100": how many instructions it does till the other one is the first. */
    private static void nearestQuantum() {
        int[][] dues = {{LEAST, 1}, {-100, 1}, {-1, 1}, {0, 1}, {1, 1}, {2, 2}, {99, 99}, {100, 100}, {101, 100}, {200, 100},
            {MOST, 100}};
        for (int[] due : dues) {
            PipeKernel k = Code.booted(due[0], 1, Code.FORK, Code.jump(1));
            int done = 0;
            while (done < 200 && (done == 0 || k.queue(0) == 0)) {
                done += k.run(1);
            }
            Check.same("quantum " + due[0], done, due[1]);
        }
    }

    /** 1: "CAPACITY the nearest of 1 .. 16": how many words go into a pipe till it waits. */
    private static void nearestCapacity() {
        int[][] dues = {{LEAST, 1}, {-16, 1}, {-1, 1}, {0, 1}, {1, 1}, {2, 2}, {15, 15}, {16, 16}, {17, 16}, {100, 16},
            {MOST, 16}};
        for (int[] due : dues) {
            PipeKernel k = Code.booted(1, due[0], Code.PIPE, Code.push(9), Code.push(3), Code.WRITE, Code.DROP, Code.jump(1));
            Code.steps(k, 200);
            Check.same("capacity " + due[0], k.pipe(0, 0), due[1]);
            Check.same("it waits to write", k.state(0), PipeKernel.WRITES);
        }
    }

    /** 1: "No process; all of the memory that is loaded is 0; TIME 0." */
    private static void nothingIsThereYet() {
        PipeKernel k = new PipeKernel(LEAST, MOST);
        for (int p = 0; p < 16; p++) {
            Check.same("no process", k.state(p), 0);
        }
        Check.queue("no process", k);
        Check.same("TIME", k.time(), 0);
        Check.same("no word", k.outs(), 0);
        k.boot();
        for (int place = 0; place < 128; place++) {
            Check.same("memory " + place, k.memory(0, place), 0);
        }
    }

    /** 2: places 0 and 127 are there (-1 and 128 are not: RefusalTest). */
    private static void loadFirstAndLastPlace() {
        PipeKernel k = new PipeKernel(1, 1);
        k.load(0, 11);
        k.load(127, 12);
        k.boot();
        Check.same("place 0", k.memory(0, 0), 11);
        Check.same("place 1", k.memory(0, 1), 0);
        Check.same("place 126", k.memory(0, 126), 0);
        Check.same("place 127", k.memory(0, 127), 12);
    }

    private static void loadAnyWord() {
        int[] words = {LEAST, -1, 0, 1, MOST};
        PipeKernel k = Code.booted(1, 1, words);
        for (int i = 0; i < words.length; i++) {
            Check.same("word " + words[i], k.memory(0, i), words[i]);
        }
    }

    private static void loadAgain() {
        PipeKernel k = new PipeKernel(1, 1);
        k.load(5, 1);
        k.load(5, MOST);
        k.load(6, 1);
        k.load(6, 0);
        k.boot();
        Check.same("the latest word", k.memory(0, 5), MOST);
        Check.same("the latest word", k.memory(0, 6), 0);
    }

    /** 2: "IllegalStateException: it was booted", also when no process is there any more. */
    private static void loadUntilBoot() {
        PipeKernel k = new PipeKernel(1, 1);
        k.feed(1);
        k.shut();
        k.run(40);
        k.load(0, 200);
        k.boot();
        Check.noState("booted", () -> k.load(0, 1));
        k.run(1);
        Check.same("it is gone", k.state(0), 0);
        Check.noState("gone", () -> k.load(0, 1));
    }

    /** 3: "IllegalStateException: it was booted", also when no process is there any more. */
    private static void bootOnce() {
        PipeKernel k = Code.booted(1, 1, 200);
        Check.noState("booted", k::boot);
        k.run(1);
        Check.same("it is gone", k.state(0), 0);
        Check.noState("gone", k::boot);
        Check.same("none is there", k.state(0), 0);
        Check.queue("none is READY", k);
    }

    /** 3: nothing was loaded: 128 times nothing, and then FAULT 4. */
    private static void bootWithAnEmptyProgram() {
        PipeKernel k = Code.booted(1, 1);
        Check.same("steps", Code.steps(k, 200), 129);
        Check.same("gone", k.state(0), 0);
    }

    /** 4: n = 0 is fine, and no step. */
    private static void runNone() {
        PipeKernel k = Code.booted(1, 1, Code.jump(0));
        Check.same("run(0)", k.run(0), 0);
        Check.same("TIME", k.time(), 0);
    }

    /** 4: "STEPS, at most n", n being 0 .. 40. */
    private static void runAtMost() {
        PipeKernel k = Code.booted(1, 1, Code.jump(0));
        int time = 0;
        for (int n = 0; n <= 40; n++) {
            Check.same("run(" + n + ")", k.run(n), n);
            time += n;
            Check.same("TIME", k.time(), time);
        }
    }

    /** 4: "As long as a process is READY or SLEEPS." */
    private static void runAsLongAsReadyOrSleeps() {
        PipeKernel ends = Code.booted(1, 1, Code.NOP, Code.NOP, Code.push(1), Code.EXIT);
        Check.same("till it ends", ends.run(40), 4);
        Check.same("none is there", ends.run(40), 0);
        PipeKernel reads = Code.booted(1, 1, Code.push(0), Code.READ, Code.push(0), Code.READ);
        Check.same("till it reads", reads.run(40), 2);
        Check.same("it waits", reads.run(40), 0);
        reads.feed(1);
        Check.same("a word", reads.run(40), 3);
        reads.shut();
        Check.same("shut, and on to the end of the memory", Code.steps(reads, 200), 1 + 124 + 1);
        PipeKernel sleeps = Code.booted(1, 1, Code.push(39), Code.SLEEP, Code.push(0), Code.READ);
        Check.same("it sleeps", sleeps.run(40), 40);
        Check.same("its time comes", sleeps.run(40), 2);
        Check.same("it waits", sleeps.run(40), 0);
        PipeKernel child = Code.booted(1, 1, Code.FORK, Code.jumpIfZero(3), Code.WAIT, Code.push(0), Code.READ);
        Code.steps(child, 40);
        Check.same("it waits for a child that reads", child.run(40), 0);
        Check.same("TIME stays", child.time(), 6);
    }

    /** 4: "(so none before boot())." */
    private static void runBeforeBoot() {
        PipeKernel k = Code.loaded(1, 1, Code.NUMBER);
        for (int n : new int[] {0, 1, 40}) {
            Check.same("run(" + n + ") before boot", k.run(n), 0);
        }
        Check.same("TIME", k.time(), 0);
    }

    /** 5: "How many are there that were not read." */
    private static void feedCounts() {
        PipeKernel k = Code.booted(1, 1, Code.push(0), Code.READ, Code.push(0), Code.READ, Code.push(0), Code.READ);
        Check.same("the first", k.feed(LEAST), 1);
        Check.same("the second", k.feed(MOST), 2);
        k.run(2);
        Check.same("one was read", k.feed(0), 2);
        k.run(4);
        Check.stack("any words", k, 0, LEAST, 1, MOST, 1, 0, 1);
        Check.same("all were read", k.feed(1), 1);
    }

    /** 5: "IllegalStateException: ... there are 100." */
    private static void feedHundred() {
        PipeKernel k = Code.booted(1, 1, Code.push(0), Code.READ, Code.jump(0));
        for (int i = 1; i <= 100; i++) {
            Check.same("feed", k.feed(i), i);
        }
        Check.noState("the 101st", () -> k.feed(101));
        k.run(2);
        Check.same("one was read", k.feed(101), 100);
        Check.noState("100 again", () -> k.feed(102));
    }

    /** Far more than 100 words go through IN, with 0 to 100 of them there, and come out in turn. */
    private static void feedRoundAndRound() {
        PipeKernel k = Code.booted(100, 1, Code.push(0), Code.READ, Code.DROP, Code.push(1), Code.WRITE, Code.DROP,
            Code.jump(0));
        int fed = 0;
        int[] bursts = {70, 100, 33, 1, 100, 99, 50};
        for (int burst : bursts) {
            for (int i = 1; i <= burst; i++) {
                Check.same("feed", k.feed(fed), i);
                fed++;
            }
            Code.steps(k, 7 * burst + 7);
            Check.same("all were written", k.outs(), fed);
        }
        for (int i = 0; i < fed; i++) {
            Check.same("word " + i, k.out(i), i);
        }
    }

    private static void feedBeforeBoot() {
        PipeKernel k = Code.loaded(1, 1, Code.push(0), Code.READ);
        Check.same("before boot", k.feed(8), 1);
        k.boot();
        Check.same("it does not wait", k.run(2), 2);
        Check.stack("the word", k, 0, 8, 1);
    }

    /** 6: "IN is shut: whether it was not." */
    private static void shutOnce() {
        PipeKernel k = Code.booted(1, 1, Code.push(0), Code.READ);
        Check.isTrue("it was not", k.shut());
        Check.isTrue("it was", !k.shut());
        k.run(2);
        Check.isTrue("it is still", !k.shut());
        Check.stack("0 and 0", k, 0, 0, 0);
    }

    /** 6: its 100 words are read all the same. */
    private static void shutWhenFull() {
        PipeKernel k = Code.booted(100, 1, Code.push(0), Code.READ, Code.jumpIfZero(6), Code.push(1), Code.WRITE,
            Code.jump(7), Code.EXIT, Code.DROP, Code.jump(0));
        for (int i = 0; i < 100; i++) {
            k.feed(i);
        }
        Check.isTrue("shut", k.shut());
        Check.noState("shut and full", () -> k.feed(1));
        Code.steps(k, 1000);
        Check.same("all words", k.outs(), 100);
        Check.same("then it ends", k.state(0), 0);
    }

    /** 7: 0 till the first step. */
    private static void timeBegins() {
        PipeKernel k = Code.loaded(1, 1, Code.jump(0));
        Check.same("new", k.time(), 0);
        k.boot();
        Check.same("booted", k.time(), 0);
        k.run(1);
        Check.same("one step", k.time(), 1);
        for (int i = 0; i < 500; i++) {
            k.run(40);
        }
        Check.same("as many as can be", k.time(), 20001);
    }

    /** 8: processes 0 and 15 are there to be asked for (-1 and 16 are not: RefusalTest). */
    private static void stateFirstAndLast() {
        PipeKernel k = fifteenChildren();
        Check.same("state(0)", k.state(0), PipeKernel.READY);
        Check.same("state(15)", k.state(15), PipeKernel.READY);
        Check.same("of a new one", new PipeKernel(1, 1).state(15), 0);
    }

    private static PipeKernel fifteenChildren() {
        PipeKernel k = Code.booted(100, 1, Code.FORK, Code.jumpIfZero(3), Code.jump(0), Code.PIPE, Code.jump(4));
        Code.steps(k, 45);
        return k;
    }

    /** 9: PLACE may be none of the memory. */
    private static void aboutPlaceOutside() {
        for (int place : new int[] {0, 127, 128, -1, 8388607, -8388608}) {
            PipeKernel k = Code.booted(1, 1, Code.jump(place));
            k.run(1);
            Check.same("PLACE", k.about(0, 0), place);
        }
    }

    /** 9: words on its stack, from 0 to 32. */
    private static void aboutWords() {
        PipeKernel k = Code.booted(1, 1, Code.NUMBER, Code.jump(0));
        for (int words = 1; words <= 32; words++) {
            Check.same("before", k.about(0, 1), words - 1);
            k.run(2);
            Check.same("words", k.about(0, 1), words);
        }
    }

    /** 9: "its parent (2; NONE)." */
    private static void aboutParent() {
        PipeKernel k = Code.booted(100, 1, Code.FORK, Code.jumpIfZero(4), Code.YIELD, Code.EXIT, Code.FORK, Code.YIELD,
            Code.jump(5));
        Check.same("of process 0", k.about(0, 2), PipeKernel.NONE);
        Code.runTo(k, 1, 5);
        Check.same("of process 1", k.about(1, 2), 0);
        Check.same("of process 2", k.about(2, 2), 1);
        PipeKernel orphan = Code.booted(100, 1, Code.FORK, Code.jumpIfZero(4), Code.push(0), Code.EXIT, Code.jump(4));
        orphan.run(4);
        Check.same("of one whose parent is gone", orphan.about(1, 2), PipeKernel.NONE);
    }

    /** 9: "its CODE (3; 0 if not ENDED)": also of one whose number had another CODE before. */
    private static void aboutCodeOnlyIfEnded() {
        PipeKernel k = Code.booted(100, 1, Code.FORK, Code.jumpIfZero(5), Code.WAIT, Code.FORK, Code.jump(4), Code.push(-5),
            Code.EXIT);
        Code.runTo(k, 1, 6);
        Check.same("not yet", k.about(1, 3), 0);
        k.run(1);
        Check.same("ENDED", k.about(1, 3), -5);
        Code.runTo(k, 0, 4);
        Check.same("1 anew", k.about(1, 2), 0);
        Check.same("has none", k.about(1, 3), 0);
        Check.same("nor has its parent", k.about(0, 3), 0);
    }

    /** 9: "the time until which it SLEEPS (4; 0 if not)": also of one that slept, or whose number did. */
    private static void aboutTimeOnlyIfItSleeps() {
        PipeKernel k = Code.booted(100, 1, Code.FORK, Code.jumpIfZero(8), Code.YIELD, Code.push(1), Code.KILL, Code.WAIT,
            Code.FORK, Code.jump(7), Code.push(50), Code.SLEEP);
        Code.runTo(k, 0, 4);
        Check.isTrue("it sleeps", k.about(1, 4) > 50);
        k.run(1);
        Check.same("it was killed", k.about(1, 4), 0);
        Code.runTo(k, 0, 7);
        Check.same("its number anew", k.about(1, 4), 0);
        PipeKernel woke = Code.booted(1, 1, Code.push(2), Code.SLEEP, Code.jump(2));
        woke.run(3);
        Check.same("it sleeps", woke.about(0, 4), 4);
        woke.run(1);
        Check.same("it woke", woke.about(0, 4), 0);
    }

    /** 9: "its open descriptors (5: descriptor k being 2^k)", from none to all. */
    private static void aboutDescriptors() {
        PipeKernel k = Code.booted(100, 1, Code.push(0), Code.CLOSE, Code.push(1), Code.CLOSE, Code.PIPE, Code.PIPE, Code.PIPE,
            Code.PIPE);
        k.run(4);
        Check.same("none", k.about(0, 5), 0);
        k.run(3);
        Check.same("0 to 5", k.about(0, 5), 63);
        k.run(1);
        Check.same("all", k.about(0, 5), 255);
        for (int d = 0; d < 8; d++) {
            PipeKernel one = Code.booted(100, 1, Code.PIPE, Code.PIPE, Code.PIPE, Code.fetch(100), Code.CLOSE, Code.DROP,
                Code.fetch(100), Code.push(1), Code.ADD, Code.TWICE, Code.store(100), Code.push(d), Code.SAME,
                Code.jumpIfZero(3), Code.jump(14));
            Code.steps(one, d == 0 ? 3 : 3 + 11 * d);
            Check.same("from " + d + " on", one.about(0, 5), 256 - (1 << d));
        }
    }

    /** 10: "Word i of a process's stack, the top being 0": up to the 32nd. */
    private static void stackFirstAndLast() {
        int[] program = new int[32];
        for (int i = 0; i < 32; i++) {
            program[i] = Code.push(i);
        }
        PipeKernel k = Code.booted(1, 1, program);
        Check.noIndex("empty", () -> k.stack(0, 0));
        for (int words = 1; words <= 32; words++) {
            k.run(1);
            int one = words;
            for (int i = 0; i < words; i++) {
                Check.same("word " + i + " of " + words, k.stack(0, i), words - 1 - i);
            }
            Check.noIndex("below the bottom", () -> k.stack(0, one));
        }
    }

    /** 10: "(also of a process that is not there)": one that ENDED is there. */
    private static void stackOfOneThatEnded() {
        PipeKernel k = Code.booted(100, 1, Code.FORK, Code.jumpIfZero(5), Code.YIELD, Code.WAIT, Code.jump(4), Code.push(8),
            Code.push(9), Code.EXIT);
        Code.runTo(k, 0, 3);
        Check.stack("ENDED", k, 1, 8);
        Check.noIndex("what EXIT popped", () -> k.stack(1, 1));
        k.run(1);
        Check.noIndex("gone", () -> k.stack(1, 0));
    }

    /** 11: places 0 and 127 of processes 0 and 15. */
    private static void memoryFirstAndLast() {
        PipeKernel k = Code.loaded(100, 1, Code.FORK, Code.jumpIfZero(3), Code.jump(0), Code.jump(3));
        k.load(127, LEAST);
        k.boot();
        Code.steps(k, 45);
        for (int p = 0; p <= 15; p++) {
            Check.same("place 0 of " + p, k.memory(p, 0), Code.FORK);
            Check.same("place 127 of " + p, k.memory(p, 127), LEAST);
        }
    }

    /** 11: "(also of a process that is not there)": one that ENDED is there; before boot none is. */
    private static void memoryOfOneThatEnded() {
        PipeKernel k = Code.loaded(100, 1, Code.FORK, Code.jumpIfZero(5), Code.YIELD, Code.WAIT, Code.jump(4), Code.push(8),
            Code.store(127), 200);
        Check.noIndex("before boot", () -> k.memory(0, 0));
        k.boot();
        Code.runTo(k, 0, 3);
        Check.same("ENDED", k.state(1), PipeKernel.ENDED);
        Check.same("its memory", k.memory(1, 127), 8);
        k.run(1);
        Check.noIndex("gone", () -> k.memory(1, 127));
    }

    /** 12: "NONE behind its end." */
    private static void queueBehindItsEnd() {
        PipeKernel k = Code.loaded(1, 1, Code.jump(0));
        for (int i : new int[] {0, 1, 15, 16, 17, MOST}) {
            Check.same("queue(" + i + ") of an empty one", k.queue(i), PipeKernel.NONE);
        }
        k.boot();
        Check.same("queue(0)", k.queue(0), 0);
        for (int i : new int[] {1, 15, 16, 17, MOST}) {
            Check.same("queue(" + i + ") of one", k.queue(i), PipeKernel.NONE);
        }
    }

    private static void queueOfSixteen() {
        PipeKernel k = fifteenChildren();
        for (int i = 0; i < 16; i++) {
            Check.same("queue(" + i + ")", k.queue(i), i);
        }
        Check.same("queue(16)", k.queue(16), PipeKernel.NONE);
        Check.same("queue(17)", k.queue(17), PipeKernel.NONE);
        Check.same("queue(most)", k.queue(MOST), PipeKernel.NONE);
    }

    /** 13: descriptors 0 and 7, "10 + p the reading end of pipe p, 20 + p the writing one", up to pipe 7. */
    private static void descriptorFirstAndLast() {
        // Process p makes pipe p and keeps it; it has a child, which closes both ends and does the same.
        PipeKernel k = Code.booted(100, 1, Code.PIPE, Code.FORK, Code.jumpIfZero(4), Code.WAIT,
            Code.CLOSE, Code.DROP, Code.CLOSE, Code.DROP, Code.jump(0));
        Code.steps(k, 120);
        for (int p = 0; p < 8; p++) {
            Check.same("IN", k.descriptor(p, 0), 1);
            Check.same("OUT", k.descriptor(p, 1), 2);
            Check.same("reading end of pipe " + p, k.descriptor(p, 2), 10 + p);
            Check.same("writing end of pipe " + p, k.descriptor(p, 3), 20 + p);
            Check.same("closed", k.descriptor(p, 7), 0);
        }
        PipeKernel all = Code.booted(1, 1, Code.PIPE, Code.PIPE, Code.PIPE);
        all.run(3);
        Check.same("descriptor 6", all.descriptor(0, 6), 12);
        Check.same("descriptor 7", all.descriptor(0, 7), 22);
    }

    /** Processes 0 .. 7 have a pipe each, and wait; process 8 has pipe 7 as its parent has, and does this. */
    private static PipeKernel eightPipes(int... atTwenty) {
        PipeKernel k = Code.booted(100, 1, Code.pieces(
            0, Code.code(Code.PIPE, Code.FORK, Code.jumpIfZero(10), Code.WAIT),
            10, Code.code(Code.NUMBER, Code.push(8), Code.SAME, Code.NOT, Code.jumpIfZero(20), Code.CLOSE, Code.DROP, Code.CLOSE,
                Code.DROP, Code.jump(0)),
            20, atTwenty));
        Code.steps(k, 200);
        return k;
    }

    /** 14: pipes 0 and 7 can be asked for everything from 0 to 4. */
    private static void pipeFirstAndLast() {
        PipeKernel k = eightPipes(Code.push(3), Code.WRITE, Code.push(3), Code.WRITE);
        Check.same("words of pipe 0", k.pipe(0, 0), 0);
        Check.same("reading ends of pipe 0", k.pipe(0, 1), 1);
        Check.same("writing ends of pipe 0", k.pipe(0, 2), 1);
        Check.same("readers of pipe 0", k.pipe(0, 3), 0);
        Check.same("writers of pipe 0", k.pipe(0, 4), 0);
        Check.same("words of pipe 7", k.pipe(7, 0), 1);
        Check.same("reading ends of pipe 7", k.pipe(7, 1), 2);
        Check.same("writing ends of pipe 7", k.pipe(7, 2), 2);
        Check.same("readers of pipe 7", k.pipe(7, 3), 0);
        Check.same("writers of pipe 7", k.pipe(7, 4), 1);
        k = eightPipes(Code.push(2), Code.READ);
        for (int p = 0; p < 8; p++) {
            Check.same("readers of pipe " + p, k.pipe(p, 3), p == 7 ? 1 : 0);
            Check.same("writers of pipe " + p, k.pipe(p, 4), 0);
        }
    }

    /** 14: "(all 0 of one that is not there)." */
    private static void pipeThatIsNotThere() {
        PipeKernel k = Code.booted(100, 1, Code.PIPE, Code.push(3), Code.WRITE, Code.push(2), Code.CLOSE, Code.push(3),
            Code.CLOSE, Code.jump(7));
        allZero(k, 0);
        k.run(4);
        Check.same("pipe 0 has a word", k.pipe(0, 0), 1);
        allZero(k, 1);
        k.run(3);
        allZero(k, 0);
    }

    private static void allZero(PipeKernel k, int from) {
        for (int p = from; p < 8; p++) {
            for (int what = 0; what <= 4; what++) {
                Check.same("pipe(" + p + ", " + what + ")", k.pipe(p, what), 0);
            }
        }
    }

    /** Words 0, 1, 2, .. go to the console, one each seven steps. */
    private static PipeKernel counts() {
        return Code.booted(1, 1, Code.fetch(100), Code.push(1), Code.WRITE, Code.fetch(100), Code.ADD, Code.store(100),
            Code.jump(0));
    }

    /** As many words as that went to the console. */
    private static PipeKernel counted(int words) {
        PipeKernel k = counts();
        Code.steps(k, 7 * words);
        return k;
    }

    /** 15: "How many words went to the console": beyond the 500 that can be asked for. */
    private static void outsCountOn() {
        for (int words : new int[] {0, 1, 2, 499, 500, 501, 999, 1000, 1001, 2500}) {
            Check.same("words", counted(words).outs(), words);
        }
        PipeKernel none = Code.booted(1, 1, Code.push(5), Code.push(9), Code.WRITE);
        none.run(3);
        Check.same("what could not be written does not count", none.outs(), 0);
    }

    /** 16: "the oldest of them being 0", as long as there are no more than 500. */
    private static void outBelow500() {
        PipeKernel none = counted(0);
        Check.noIndex("none", () -> none.out(0));
        for (int words : new int[] {1, 2, 3, 250, 498, 499, 500}) {
            PipeKernel k = counted(words);
            for (int i = 0; i < words && i < 300; i++) {
                Check.same("out(" + i + ") of " + words, k.out(i), i);
            }
            Check.same("the latest", k.out(words - 1), words - 1);
            Check.noIndex("behind it", () -> k.out(words));
            Check.noIndex("far behind it", () -> k.out(words + 500));
        }
    }

    /** 16: "of the latest 500 ones": the row goes round and round. */
    private static void outOfTheLatest500() {
        for (int words : new int[] {501, 502, 750, 998, 999, 1000, 1001, 1002, 1499, 1500, 1501, 1999}) {
            PipeKernel k = counted(words);
            for (int i : new int[] {0, 1, 2, 248, 249, 250, 251, 497, 498, 499}) {
                Check.same("out(" + i + ") of " + words, k.out(i), words - 500 + i);
            }
            Check.noIndex("behind them", () -> k.out(500));
            Check.noIndex("behind them", () -> k.out(words - 1));
        }
        PipeKernel k = counted(1234);
        for (int i = 0; i < 250; i++) {
            Check.same("out(" + i + ")", k.out(i), 734 + i);
        }
        PipeKernel same = counted(1234);
        for (int i = 250; i < 500; i++) {
            Check.same("out(" + i + ")", same.out(i), 734 + i);
        }
    }

    private static void outAnyWord() {
        int[] words = {LEAST, -1, 0, 1, MOST};
        PipeKernel k = Code.loaded(100, 1);
        for (int i = 0; i < words.length; i++) {
            k.load(3 * i, Code.fetch(100 + i));
            k.load(3 * i + 1, Code.push(1));
            k.load(3 * i + 2, Code.WRITE);
            k.load(100 + i, words[i]);
        }
        k.boot();
        k.run(15);
        Check.outputs("any word", k, words);
    }

    /** "An object is used for at most 512 calls after it has been made": the last of them is answered as any other. */
    private static void callNumber512() {
        PipeKernel k = new PipeKernel(100, 16);
        k.load(0, Code.jump(0));
        k.boot();
        for (int call = 3; call < 512; call++) {
            Check.same("call " + call, k.run(40), 40);
        }
        Check.same("call 512", k.time(), 40 * 509);
    }
}

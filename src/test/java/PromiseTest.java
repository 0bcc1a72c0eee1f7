/** Promises 1 to 16, each with ordinary inputs, the edges that the document names, and wrong inputs. */
public final class PromiseTest {
    public static void main(String[] args) {
        promise1();
        promise1Bounds();
        promise2();
        promise3();
        promise4();
        promise5();
        promise5Wakes();
        promise6();
        promise7();
        promise8();
        promise9();
        promise9Ended();
        promise10();
        promise11();
        promise12();
        promise13();
        promise14();
        promise15And16();
        Check.done();
    }

    private static void promise1() {
        PipeKernel k = new PipeKernel(3, 3);
        for (int p = 0; p < 16; p++) {
            Check.same("1: state(" + p + ")", k.state(p), 0);
        }
        for (int p = 0; p < 8; p++) {
            for (int what = 0; what <= 4; what++) {
                Check.same("1: pipe(" + p + ", " + what + ")", k.pipe(p, what), 0);
            }
        }
        Check.same("1: time()", k.time(), 0);
        Check.same("1: outs()", k.outs(), 0);
        Check.queue("1", k);
        k.boot();
        for (int place = 0; place < 128; place++) {
            Check.same("1: memory(0, " + place + ")", k.memory(0, place), 0);
        }
    }

    private static void promise1Bounds() {
        quantumIs(0, 1);
        quantumIs(-7, 1);
        quantumIs(Integer.MIN_VALUE, 1);
        quantumIs(1, 1);
        quantumIs(2, 2);
        quantumIs(99, 99);
        quantumIs(100, 100);
        quantumIs(101, 100);
        quantumIs(Integer.MAX_VALUE, 100);
        capacityIs(0, 1);
        capacityIs(Integer.MIN_VALUE, 1);
        capacityIs(1, 1);
        capacityIs(2, 2);
        capacityIs(15, 15);
        capacityIs(16, 16);
        capacityIs(17, 16);
        capacityIs(Integer.MAX_VALUE, 16);
    }

    private static void quantumIs(int quantum, int due) {
        // The child and its parent go round and round; the first turn begins with the FORK.
        PipeKernel k = Code.booted(quantum, 1, Code.FORK, Code.jump(1));
        int done = 0;
        while (done < 200 && (done == 0 || k.queue(0) == 0)) {
            done += k.run(1);
        }
        Check.same("1: instructions in a turn with quantum " + quantum, done, due);
    }

    private static void capacityIs(int capacity, int due) {
        PipeKernel k = Code.booted(1, capacity, Code.PIPE, Code.store(100), Code.DROP,
            Code.push(9), Code.fetch(100), Code.WRITE, Code.DROP, Code.jump(3));
        Code.steps(k, 200);
        Check.same("1: words in a pipe with capacity " + capacity, k.pipe(0, 0), due);
        Check.same("1: it waits to write", k.state(0), PipeKernel.WRITES);
    }

    private static void promise2() {
        PipeKernel k = new PipeKernel(1, 1);
        k.load(0, 5);
        k.load(0, 17);
        k.load(64, Integer.MIN_VALUE);
        k.load(127, -1);
        Check.noIndex("2: load(128)", () -> k.load(128, 1));
        Check.noIndex("2: load(-1)", () -> k.load(-1, 1));
        Check.noIndex("2: load(least)", () -> k.load(Integer.MIN_VALUE, 1));
        Check.noIndex("2: load(most)", () -> k.load(Integer.MAX_VALUE, 1));
        k.boot();
        Check.noState("2: load behind boot", () -> k.load(0, 1));
        Check.noIndex("2: load(128) behind boot", () -> k.load(128, 1));
        Check.noIndex("2: load(-1) behind boot", () -> k.load(-1, 1));
        Check.same("2: memory(0, 0)", k.memory(0, 0), 17);
        Check.same("2: memory(0, 1)", k.memory(0, 1), 0);
        Check.same("2: memory(0, 64)", k.memory(0, 64), Integer.MIN_VALUE);
        Check.same("2: memory(0, 127)", k.memory(0, 127), -1);
        k.run(1);
        Check.same("2: it was a FAULT", k.state(0), 0);
        Check.noState("2: load when process 0 is gone", () -> k.load(0, 1));
    }

    private static void promise3() {
        PipeKernel k = new PipeKernel(1, 1);
        k.boot();
        Check.same("3: state", k.state(0), PipeKernel.READY);
        Check.same("3: PLACE", k.about(0, 0), 0);
        Check.same("3: words", k.about(0, 1), 0);
        Check.same("3: parent", k.about(0, 2), PipeKernel.NONE);
        Check.same("3: open", k.about(0, 5), 3);
        Check.same("3: descriptor 0", k.descriptor(0, 0), 1);
        Check.same("3: descriptor 1", k.descriptor(0, 1), 2);
        for (int d = 2; d < 8; d++) {
            Check.same("3: descriptor " + d, k.descriptor(0, d), 0);
        }
        Check.queue("3", k, 0);
        Check.same("3: others", k.state(1), 0);
        Check.noState("3: boot twice", k::boot);
        Check.queue("3: boot twice", k, 0);
        PipeKernel gone = Code.booted(1, 1, Code.push(0), Code.EXIT);
        gone.run(2);
        Check.noState("3: boot when process 0 is gone", gone::boot);
        Check.same("3: it is gone still", gone.state(0), 0);
    }

    private static void promise4() {
        PipeKernel k = Code.loaded(1, 1, Code.push(3), Code.SLEEP, Code.push(0), Code.READ);
        Check.same("4: before boot", k.run(40), 0);
        Check.same("4: TIME before boot", k.time(), 0);
        k.boot();
        Check.same("4: run(0)", k.run(0), 0);
        Check.noArgument("4: run(-1)", () -> k.run(-1));
        Check.noArgument("4: run(41)", () -> k.run(41));
        Check.noArgument("4: run(least)", () -> k.run(Integer.MIN_VALUE));
        Check.noArgument("4: run(most)", () -> k.run(Integer.MAX_VALUE));
        Check.same("4: nothing was done", k.about(0, 0), 0);
        Check.same("4: run(3) goes on while it sleeps", k.run(3), 3);
        Check.same("4: it sleeps", k.state(0), PipeKernel.SLEEPS);
        Check.same("4: run(40) till it waits", k.run(40), 3);
        Check.same("4: TIME", k.time(), 6);
        Check.same("4: none is READY", k.run(40), 0);
        Check.same("4: TIME stays", k.time(), 6);
        Check.same("4: run(40) on a loop", Code.booted(1, 1, Code.jump(0)).run(40), 40);
        Check.noArgument("4: run(41) before boot", () -> new PipeKernel(1, 1).run(41));
    }

    private static void promise5() {
        PipeKernel k = Code.loaded(1, 1, Code.push(0), Code.READ, Code.push(0), Code.READ);
        for (int i = 1; i <= 100; i++) {
            Check.same("5: feed", k.feed(1000 + i), i);
        }
        Check.noState("5: the 101st word", () -> k.feed(1));
        k.boot();
        k.run(2);
        Check.stack("5: the first word", k, 0, 1001, 1);
        Check.same("5: there is room again", k.feed(-5), 100);
        Check.noState("5: full again", () -> k.feed(1));
        k.run(2);
        Check.stack("5: the second word", k, 0, 1001, 1, 1002, 1);
        k.shut();
        Check.noState("5: shut", () -> k.feed(1));
    }

    private static void promise5Wakes() {
        // The four come to READ in the order 2, 1, 3, 0.
        PipeKernel k = Code.booted(1, 1, Code.FORK, Code.DROP, Code.FORK, Code.DROP, Code.push(0), Code.READ,
            Code.NUMBER, Code.push(1), Code.WRITE, Code.push(9), Code.SLEEP);
        Code.steps(k, 40);
        int[] waiting = {0, 1, 2, 3};
        for (int p : waiting) {
            Check.same("5: waits", k.state(p), PipeKernel.READS);
        }
        Check.same("5: one word", k.feed(7), 1);
        Check.queue("5: the first one", k, 2);
        Check.same("5: a second word", k.feed(8), 2);
        Check.queue("5: the next one", k, 2, 1);
        k.run(2);
        Check.same("5: both were read", k.feed(9), 1);
        Check.queue("5: the third one", k, 2, 1, 3);
    }

    private static void promise6() {
        PipeKernel k = Code.booted(1, 1, Code.FORK, Code.DROP, Code.push(0), Code.READ, Code.push(0), Code.READ);
        Code.steps(k, 40);
        Check.queue("6: both wait", k);
        Check.isTrue("6: shut()", k.shut());
        Check.queue("6: all, in turn", k, 1, 0);
        Check.isTrue("6: shut() again", !k.shut());
        Check.queue("6: once only", k, 1, 0);
        k.run(2);
        Check.stack("6: none will come", k, 0, 0, 0);
        Check.stack("6: none will come", k, 1, 0, 0);
        PipeKernel left = Code.loaded(1, 1, Code.push(0), Code.READ, Code.push(0), Code.READ);
        left.feed(5);
        Check.isTrue("6: before boot", left.shut());
        left.boot();
        left.run(4);
        Check.stack("6: what was there is read", left, 0, 5, 1, 0, 0);
    }

    private static void promise7() {
        PipeKernel k = Code.booted(1, 1, Code.push(0), Code.jump(1));
        k.run(1);
        Check.same("7: one step", k.time(), 1);
        k.run(40);
        k.run(40);
        Check.same("7: more", k.time(), 81);
        k.feed(1);
        k.shut();
        Check.same("7: only steps count", k.time(), 81);
    }

    private static void promise8() {
        PipeKernel k = Code.booted(1, 1, Code.FORK, Code.jumpIfZero(4), Code.push(9), Code.SLEEP,
            Code.push(1), Code.EXIT);
        Check.noIndex("8: state(-1)", () -> k.state(-1));
        Check.noIndex("8: state(16)", () -> k.state(16));
        Check.noIndex("8: state(most)", () -> k.state(Integer.MAX_VALUE));
        Check.noIndex("8: state(least)", () -> k.state(Integer.MIN_VALUE));
        Check.same("8: READY", k.state(0), 1);
        Check.same("8: there is none", k.state(15), 0);
        k.run(9);
        Check.same("8: SLEEPS", k.state(0), 5);
        Check.same("8: ENDED", k.state(1), 6);
        PipeKernel waits = Code.booted(1, 1, Code.FORK, Code.jumpIfZero(3), Code.WAIT, Code.push(0), Code.READ);
        waits.run(9);
        Check.same("8: waits for a child", waits.state(0), 4);
        Check.same("8: waits to read", waits.state(1), 2);
        PipeKernel gone = Code.booted(1, 1, Code.DROP);
        gone.run(1);
        Check.same("8: gone behind a FAULT", gone.state(0), 0);
        PipeKernel full = Code.booted(1, 1, Code.PIPE, Code.TWICE, Code.WRITE, Code.push(3), Code.TWICE, Code.WRITE);
        Code.steps(full, 9);
        Check.same("8: waits to write", full.state(0), 3);
    }

    private static void promise9() {
        PipeKernel k = Code.booted(1, 1, Code.FORK, Code.jumpIfZero(4), Code.push(30), Code.SLEEP,
            Code.PIPE, Code.push(1), Code.CLOSE, Code.jump(7));
        Check.noIndex("9: about(-1, 0)", () -> k.about(-1, 0));
        Check.noIndex("9: about(16, 0)", () -> k.about(16, 0));
        Check.noIndex("9: about(16, 9), the first exception", () -> k.about(16, 9));
        Check.noArgument("9: about(0, 6)", () -> k.about(0, 6));
        Check.noArgument("9: about(0, -1)", () -> k.about(0, -1));
        Check.noArgument("9: about(3, 6), the first exception", () -> k.about(3, 6));
        Check.noState("9: about(3, 0)", () -> k.about(3, 0));
        Check.noState("9: about(15, 5)", () -> k.about(15, 5));
        k.run(8);
        Check.same("9: PLACE of a sleeper", k.about(0, 0), 4);
        Check.same("9: its words", k.about(0, 1), 1);
        Check.same("9: its parent", k.about(0, 2), PipeKernel.NONE);
        Check.same("9: its CODE", k.about(0, 3), 0);
        Check.same("9: its time", k.about(0, 4), 37);
        Check.same("9: its descriptors", k.about(0, 5), 3);
        Check.same("9: PLACE of the child", k.about(1, 0), 7);
        Check.same("9: its words", k.about(1, 1), 3);
        Check.same("9: its parent", k.about(1, 2), 0);
        Check.same("9: its CODE", k.about(1, 3), 0);
        Check.same("9: its time", k.about(1, 4), 0);
        Check.same("9: its descriptors", k.about(1, 5), 13);
        k.run(28);
        Check.same("9: it sleeps still", k.about(0, 4), 37);
        k.run(1);
        Check.same("9: it does not sleep any more", k.about(0, 4), 0);
    }

    private static void promise9Ended() {
        PipeKernel k = Code.booted(1, 1, Code.FORK, Code.jumpIfZero(3), Code.jump(2), Code.PIPE, Code.push(-77), Code.EXIT);
        k.run(20);
        Check.same("9: ENDED", k.state(1), PipeKernel.ENDED);
        Check.same("9: PLACE is behind EXIT", k.about(1, 0), 6);
        Check.stack("9: what it left", k, 1, 2, 3);
        Check.same("9: parent", k.about(1, 2), 0);
        Check.same("9: CODE", k.about(1, 3), -77);
        Check.same("9: time", k.about(1, 4), 0);
        Check.same("9: descriptors", k.about(1, 5), 0);
    }

    private static void promise10() {
        PipeKernel k = Code.booted(1, 1, Code.push(5), Code.push(6), Code.push(-7), Code.jump(3));
        Check.noIndex("10: empty", () -> k.stack(0, 0));
        k.run(4);
        Check.same("10: the top", k.stack(0, 0), -7);
        Check.same("10: below it", k.stack(0, 1), 6);
        Check.same("10: the bottom", k.stack(0, 2), 5);
        Check.noIndex("10: below the bottom", () -> k.stack(0, 3));
        Check.noIndex("10: above the top", () -> k.stack(0, -1));
        Check.noIndex("10: least", () -> k.stack(0, Integer.MIN_VALUE));
        Check.noIndex("10: most", () -> k.stack(0, Integer.MAX_VALUE));
        Check.noIndex("10: not there", () -> k.stack(1, 0));
        Check.noIndex("10: process -1", () -> k.stack(-1, 0));
        Check.noIndex("10: process 16", () -> k.stack(16, 0));
    }

    private static void promise11() {
        PipeKernel k = Code.booted(1, 1, Code.FORK, Code.jumpIfZero(5), Code.push(3), Code.store(100), Code.jump(4),
            Code.push(4), Code.store(100), Code.jump(7));
        k.run(12);
        Check.same("11: of the parent", k.memory(0, 100), 3);
        Check.same("11: of the child", k.memory(1, 100), 4);
        Check.same("11: the last place", k.memory(1, 127), 0);
        Check.same("11: the first place", k.memory(1, 0), Code.FORK);
        Check.noIndex("11: place 128", () -> k.memory(0, 128));
        Check.noIndex("11: place -1", () -> k.memory(0, -1));
        Check.noIndex("11: not there", () -> k.memory(2, 0));
        Check.noIndex("11: process -1", () -> k.memory(-1, 0));
        Check.noIndex("11: process 16", () -> k.memory(16, 0));
        Check.noIndex("11: before boot", () -> Code.loaded(1, 1, 7).memory(0, 0));
    }

    private static void promise12() {
        PipeKernel k = Code.booted(2, 1, Code.FORK, Code.FORK, Code.jump(2));
        Check.queue("12", k, 0);
        k.run(1);
        Check.queue("12", k, 0, 1);
        k.run(1);
        Check.queue("12", k, 1, 2, 0);
        Check.same("12: far behind the end", k.queue(Integer.MAX_VALUE), PipeKernel.NONE);
        Check.same("12: queue(16)", k.queue(16), PipeKernel.NONE);
        Check.noIndex("12: queue(-1)", () -> k.queue(-1));
        Check.noIndex("12: queue(least)", () -> k.queue(Integer.MIN_VALUE));
    }

    private static void promise13() {
        PipeKernel k = Code.booted(1, 1, Code.PIPE, Code.PIPE, Code.push(0), Code.DUP, Code.push(1), Code.DUP, Code.jump(6));
        k.run(7);
        int[] due = {1, 2, 10, 20, 11, 21, 1, 2};
        for (int d = 0; d < 8; d++) {
            Check.same("13: descriptor " + d, k.descriptor(0, d), due[d]);
        }
        Check.noIndex("13: descriptor 8", () -> k.descriptor(0, 8));
        Check.noIndex("13: descriptor -1", () -> k.descriptor(0, -1));
        Check.noIndex("13: not there", () -> k.descriptor(1, 0));
        Check.noIndex("13: process -1", () -> k.descriptor(-1, 0));
        Check.noIndex("13: process 16", () -> k.descriptor(16, 0));
        PipeKernel ended = Code.booted(1, 1, Code.FORK, Code.jumpIfZero(3), Code.jump(2), Code.push(0), Code.EXIT);
        ended.run(20);
        for (int d = 0; d < 8; d++) {
            Check.same("13: of one that ENDED", ended.descriptor(1, d), 0);
        }
    }

    private static void promise14() {
        PipeKernel k = Code.booted(1, 2, Code.PIPE, Code.push(3), Code.WRITE, Code.FORK, Code.DROP,
            Code.push(2), Code.DUP, Code.jump(7));
        Code.steps(k, 20);
        Check.same("14: words", k.pipe(0, 0), 1);
        Check.same("14: reading ends", k.pipe(0, 1), 4);
        Check.same("14: writing ends", k.pipe(0, 2), 2);
        Check.same("14: wait to read", k.pipe(0, 3), 0);
        Check.same("14: wait to write", k.pipe(0, 4), 0);
        Check.same("14: another pipe", k.pipe(1, 1), 0);
        promise14Waiting();
        PipeKernel any = new PipeKernel(1, 1);
        Check.noIndex("14: pipe(-1)", () -> any.pipe(-1, 0));
        Check.noIndex("14: pipe(8)", () -> any.pipe(8, 0));
        Check.noIndex("14: pipe(8, 5), the first exception", () -> any.pipe(8, 5));
        Check.noArgument("14: pipe(0, 5)", () -> any.pipe(0, 5));
        Check.noArgument("14: pipe(7, -1)", () -> any.pipe(7, -1));
        Check.noArgument("14: pipe(0, most)", () -> any.pipe(0, Integer.MAX_VALUE));
    }

    private static void promise14Waiting() {
        PipeKernel reads = Code.booted(1, 1, Code.PIPE, Code.DROP, Code.FORK, Code.DROP, Code.READ);
        Code.steps(reads, 20);
        Check.same("14: two wait to read", reads.pipe(0, 3), 2);
        Check.same("14: none waits to write", reads.pipe(0, 4), 0);
        PipeKernel writes = Code.booted(1, 1, Code.PIPE, Code.push(3), Code.WRITE, Code.DROP,
            Code.FORK, Code.DROP, Code.push(3), Code.TWICE, Code.WRITE);
        Code.steps(writes, 20);
        Check.same("14: none waits to read", writes.pipe(0, 3), 0);
        Check.same("14: two wait to write", writes.pipe(0, 4), 2);
        Check.same("14: it is full", writes.pipe(0, 0), 1);
    }

    private static void promise15And16() {
        // Words 0, 1, 2, .. go to the console.
        PipeKernel k = Code.booted(1, 1, Code.fetch(100), Code.push(1), Code.WRITE, Code.fetch(100), Code.ADD,
            Code.store(100), Code.jump(0));
        Check.same("15: none", k.outs(), 0);
        Check.noIndex("16: none", () -> k.out(0));
        Code.steps(k, 7 * 500 - 4);
        Check.same("15: 500", k.outs(), 500);
        Check.same("16: the oldest", k.out(0), 0);
        Check.same("16: the latest", k.out(499), 499);
        Check.noIndex("16: behind it", () -> k.out(500));
        Check.noIndex("16: out(-1)", () -> k.out(-1));
        Check.noIndex("16: out(least)", () -> k.out(Integer.MIN_VALUE));
        Code.steps(k, 7);
        Check.same("15: 501", k.outs(), 501);
        Check.same("16: the oldest of 500", k.out(0), 1);
        Check.same("16: the latest", k.out(499), 500);
        Check.noIndex("16: of 500 only", () -> k.out(500));
        Code.steps(k, 7 * 700);
        Check.same("15: 1201", k.outs(), 1201);
        for (int i = 0; i < 500; i++) {
            Check.same("16: out(" + i + ")", k.out(i), 701 + i);
        }
        Check.noIndex("16: out(most)", () -> k.out(Integer.MAX_VALUE));
    }
}

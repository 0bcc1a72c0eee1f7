/** The sentences on descriptors, pipes, READ and WRITE, and WAITING that name a boundary, each with a test of its own. */
public final class PipeEdgeTest {
    private static final int[] NO_DESCRIPTOR = {-1, 8, 9, 10, 20, -8, Integer.MIN_VALUE, Integer.MAX_VALUE};

    public static void main(String[] args) {
        atMostCapacity();
        inTurnRoundAndRound();
        fullThenOneIsTaken();
        thereAsLongAsOneEndIs();
        everyPipeStaysByOneEnd();
        goneWithItsLastEnd();
        goneByTheEndOfAProcess();
        writeToNoDescriptor();
        writeToAWrongEnd();
        writeWithoutAReadingEnd();
        readingEndAnywhere();
        fullWaits();
        readFromNoDescriptor();
        readFromAWrongEnd();
        readOfAnEmptyPipe();
        writingEndAnywhere();
        lastWordsThenNone();
        inIsEmpty();
        inIsShut();
        pipeNeedsTwoDescriptors();
        pipeTakesTheLeastDescriptors();
        ninthPipe();
        closeOfNone();
        closeEach();
        dupOfNone();
        dupIntoTheLast();
        forkCopiesEveryEnd();
        oneWordWakesOne();
        oneTakenWakesOne();
        notTheLastEndWakesNone();
        waitsAnewAsTheLatest();
        sixteenWaitForIn();
        shutWakesAllSixteen();
        Check.done();
    }

    /** Process 0 alone has pipe 0, with 2 and 3 as its ends, and then does this. */
    private static PipeKernel withPipe(int capacity, int... program) {
        int[] all = new int[program.length + 1];
        all[0] = Code.PIPE;
        System.arraycopy(program, 0, all, 1, program.length);
        PipeKernel k = Code.booted(100, capacity, all);
        Code.steps(k, 1);
        return k;
    }

    /** Process 0 does this with y on the stack, which may be any int. */
    private static PipeKernel withTop(int y, int... program) {
        int[] all = new int[program.length + 1];
        all[0] = Code.fetch(100);
        System.arraycopy(program, 0, all, 1, program.length);
        PipeKernel k = Code.loaded(100, 1, all);
        k.load(100, y);
        k.boot();
        k.run(all.length);
        return k;
    }

    /** "PIPES 0 .. 7 hold at most CAPACITY words." */
    private static void atMostCapacity() {
        for (int capacity = 1; capacity <= 16; capacity++) {
            PipeKernel k = withPipe(capacity, Code.push(9), Code.push(3), Code.WRITE, Code.DROP, Code.jump(1));
            for (int words = 1; words <= capacity; words++) {
                k.run(5);
                Check.same("words of " + capacity, k.pipe(0, 0), words);
                Check.same("READY", k.state(0), PipeKernel.READY);
            }
            Check.same("one word more", k.run(5), 3);
            Check.same("it waits to write", k.state(0), PipeKernel.WRITES);
            Check.same("no word more", k.pipe(0, 0), capacity);
            Check.same("one waits", k.pipe(0, 4), 1);
        }
    }

    /** "In turn": the words come out as they went in, however often the pipe is filled and emptied. */
    private static void inTurnRoundAndRound() {
        for (int capacity = 1; capacity <= 16; capacity++) {
            // Process 1 writes 0, 1, 2, ..; process 0 prints them.
            PipeKernel k = Code.booted(3, capacity, Code.pieces(
                0, Code.code(Code.PIPE, Code.FORK, Code.jumpIfZero(20), Code.push(2), Code.READ, Code.DROP, Code.push(1),
                    Code.WRITE, Code.DROP, Code.jump(3)),
                20, Code.code(Code.fetch(100), Code.push(3), Code.WRITE, Code.fetch(100), Code.ADD, Code.store(100),
                    Code.jump(20))));
            Code.steps(k, 1000);
            Check.isTrue("many words went through " + capacity, k.outs() > 60);
            for (int i = 0; i < k.outs(); i++) {
                Check.same("word " + i + " of capacity " + capacity, k.out(i), i);
            }
        }
    }

    private static void fullThenOneIsTaken() {
        for (int capacity = 1; capacity <= 16; capacity++) {
            PipeKernel k = Code.booted(100, capacity, Code.pieces(
                0, Code.code(Code.PIPE, Code.FORK, Code.jumpIfZero(20), Code.YIELD, Code.push(2), Code.READ, Code.jump(6)),
                20, Code.code(Code.push(9), Code.push(3), Code.WRITE, Code.DROP, Code.jump(20))));
            Code.runTo(k, 0, 4);
            Check.same("full", k.pipe(0, 0), capacity);
            Check.same("it waits to write", k.state(1), PipeKernel.WRITES);
            Code.runTo(k, 0, 6);
            Check.same("one less", k.pipe(0, 0), capacity - 1);
            Check.queue("who waits to write is READY", k, 0, 1);
            Check.same("none waits", k.pipe(0, 4), 0);
            Code.runTo(k, 1, 22);
            k.run(1);
            Check.same("full again", k.pipe(0, 0), capacity);
        }
    }

    /** "One is there as long as a descriptor of a process is an end of it." */
    private static void thereAsLongAsOneEndIs() {
        PipeKernel k = withPipe(2, Code.push(3), Code.TWICE, Code.WRITE, Code.DROP, Code.push(3), Code.CLOSE, Code.DROP,
            Code.push(2), Code.DUP, Code.DROP, Code.push(2), Code.CLOSE, Code.DROP, Code.push(3), Code.CLOSE);
        k.run(6);
        Check.same("without a writing end its word is there", k.pipe(0, 0), 1);
        Check.same("a reading end", k.pipe(0, 1), 1);
        k.run(6);
        Check.same("3 is a reading end now", k.descriptor(0, 3), 10);
        Check.same("its word is there", k.pipe(0, 0), 1);
        k.run(3);
        Check.same("gone with the last one", k.pipe(0, 0) + k.pipe(0, 1) + k.pipe(0, 2), 0);
    }

    /** Each of the pipes 0 .. 7 has one end only, in process 0 .. 7; a ninth finds none, whichever end it is. */
    private static void everyPipeStaysByOneEnd() {
        for (int closed = 2; closed <= 3; closed++) {
            // A process makes a pipe, closes one end of it, has a child and waits; the child closes the other one.
            PipeKernel k = Code.booted(100, 1, Code.PIPE, Code.DROP, Code.DROP, Code.push(closed), Code.CLOSE, Code.DROP,
                Code.FORK, Code.jumpIfZero(9), Code.WAIT, Code.push(5 - closed), Code.CLOSE, Code.DROP, Code.jump(0));
            Code.steps(k, 200);
            for (int p = 0; p < 8; p++) {
                Check.same("pipe of process " + p, k.descriptor(p, 5 - closed), (closed == 2 ? 20 : 10) + p);
                Check.same("reading ends of pipe " + p, k.pipe(p, 1), closed - 2);
                Check.same("writing ends of pipe " + p, k.pipe(p, 2), 3 - closed);
                Check.same("process " + p + " waits", k.state(p), PipeKernel.WAITS);
            }
            Check.same("process 8 got none", k.about(8, 5), 3);
        }
    }

    /** "Its words are gone when it is not there any more." */
    private static void goneWithItsLastEnd() {
        for (int last = 2; last <= 3; last++) {
            PipeKernel k = withPipe(3, Code.push(3), Code.TWICE, Code.WRITE, Code.DROP, Code.push(4), Code.push(3), Code.WRITE,
                Code.DROP, Code.push(5 - last), Code.CLOSE, Code.push(last), Code.CLOSE, Code.PIPE, Code.push(2), Code.READ);
            k.run(10);
            Check.same("both words are there", k.pipe(0, 0), 2);
            k.run(2);
            for (int what = 0; what <= 4; what++) {
                Check.same("pipe(0, " + what + ")", k.pipe(0, what), 0);
            }
            k.run(3);
            Check.same("pipe 0 anew", k.descriptor(0, 2), 10);
            Check.same("it is empty", k.state(0), PipeKernel.READS);
        }
    }

    /** "Its descriptors are closed": by EXIT, by a FAULT and by KILL the pipe of process 1 is gone, and its word. */
    private static void goneByTheEndOfAProcess() {
        int[][] ends = {Code.code(Code.push(1), Code.EXIT), Code.code(200), Code.code(Code.NUMBER, Code.KILL)};
        for (int[] end : ends) {
            PipeKernel k = Code.booted(100, 2, Code.pieces(
                0, Code.code(Code.FORK, Code.jumpIfZero(20), Code.WAIT, Code.PIPE, Code.jump(4)),
                20, Code.code(Code.PIPE, Code.push(3), Code.WRITE, Code.NOP),
                24, end));
            Code.runTo(k, 1, 24);
            Check.same("its word", k.pipe(0, 0), 1);
            Code.runTo(k, 0, 4);
            Check.same("pipe 0 anew", k.descriptor(0, 2), 10);
            Check.same("without a word", k.pipe(0, 0), 0);
            Check.same("one reading end", k.pipe(0, 1), 1);
            Check.same("one writing end", k.pipe(0, 2), 1);
        }
    }

    /** WRITE: "otherwise -1", of a descriptor that is closed or none. */
    private static void writeToNoDescriptor() {
        for (int d : NO_DESCRIPTOR) {
            PipeKernel k = withTop(d, Code.push(5), Code.SWAP, Code.WRITE);
            Check.stack("WRITE to " + d, k, 0, -1);
            Check.same("no word", k.outs(), 0);
        }
        for (int d = 2; d < 8; d++) {
            PipeKernel k = withTop(d, Code.push(5), Code.SWAP, Code.WRITE);
            Check.stack("WRITE to " + d, k, 0, -1);
        }
    }

    /** WRITE: "otherwise -1", of IN and of a pipe's reading end. */
    private static void writeToAWrongEnd() {
        PipeKernel in = withTop(0, Code.push(5), Code.SWAP, Code.WRITE);
        Check.stack("WRITE to IN", in, 0, -1);
        Check.same("no word came to IN", in.feed(1), 1);
        PipeKernel k = withPipe(1, Code.push(5), Code.push(2), Code.WRITE);
        k.run(3);
        Check.stack("WRITE to a reading end", k, 0, 2, 3, -1);
        Check.same("no word", k.pipe(0, 0), 0);
    }

    /** "Without a reading end of it anywhere -2": of an empty pipe and of a full one. */
    private static void writeWithoutAReadingEnd() {
        PipeKernel empty = withPipe(1, Code.push(2), Code.CLOSE, Code.push(7), Code.push(3), Code.WRITE);
        empty.run(5);
        Check.stack("empty", empty, 0, 2, 3, 0, -2);
        Check.same("no word", empty.pipe(0, 0), 0);
        PipeKernel full = withPipe(1, Code.push(3), Code.TWICE, Code.WRITE, Code.push(2), Code.CLOSE, Code.push(7),
            Code.push(3), Code.WRITE);
        full.run(8);
        Check.stack("full", full, 0, 2, 3, 1, 0, -2);
        Check.same("its word", full.pipe(0, 0), 1);
        Check.same("none waits", full.pipe(0, 4), 0);
    }

    /** "Anywhere": a reading end of another process is enough. */
    private static void readingEndAnywhere() {
        PipeKernel k = withPipe(1, Code.FORK, Code.jumpIfZero(12), Code.push(2), Code.CLOSE, Code.push(7), Code.push(3),
            Code.WRITE, Code.push(8), Code.push(3), Code.WRITE, Code.NOP, Code.jump(12));
        Code.runTo(k, 0, 8);
        Check.stack("it goes in", k, 0, 2, 3, 0, 1);
        Check.same("one reading end", k.pipe(0, 1), 1);
        k.run(3);
        Check.same("full: it waits", k.state(0), PipeKernel.WRITES);
    }

    /** "If the pipe is full, it waits to write (nothing is popped)." */
    private static void fullWaits() {
        PipeKernel k = withPipe(1, Code.push(3), Code.TWICE, Code.WRITE, Code.push(-7), Code.push(3), Code.WRITE);
        k.run(6);
        Check.same("WRITES", k.state(0), PipeKernel.WRITES);
        Check.stack("nothing is popped", k, 0, 2, 3, 1, -7, 3);
        Check.same("PLACE stays", k.about(0, 0), 6);
        Check.queue("off the queue", k);
        Check.same("no step can be done", k.run(40), 0);
    }

    /** READ: "otherwise 0 and -1", of a descriptor that is closed or none. */
    private static void readFromNoDescriptor() {
        for (int d : NO_DESCRIPTOR) {
            Check.stack("READ from " + d, withTop(d, Code.READ), 0, 0, -1);
        }
        for (int d = 2; d < 8; d++) {
            Check.stack("READ from " + d, withTop(d, Code.READ), 0, 0, -1);
        }
    }

    /** READ: "otherwise 0 and -1", of OUT and of a pipe's writing end. */
    private static void readFromAWrongEnd() {
        Check.stack("READ from OUT", withTop(1, Code.READ), 0, 0, -1);
        PipeKernel k = withPipe(1, Code.push(3), Code.TWICE, Code.WRITE, Code.push(3), Code.READ);
        k.run(5);
        Check.stack("READ from a writing end", k, 0, 2, 3, 1, 0, -1);
        Check.same("its word is there", k.pipe(0, 0), 1);
    }

    /** "If there is none ... it waits to read (nothing is popped)." */
    private static void readOfAnEmptyPipe() {
        PipeKernel k = withPipe(1, Code.push(2), Code.READ);
        k.run(2);
        Check.same("READS", k.state(0), PipeKernel.READS);
        Check.stack("nothing is popped", k, 0, 2, 3, 2);
        Check.same("PLACE stays", k.about(0, 0), 2);
        Check.same("one waits", k.pipe(0, 3), 1);
        Check.queue("off the queue", k);
    }

    /** "No writing end of the pipe is anywhere": one of another process is enough to wait for. */
    private static void writingEndAnywhere() {
        PipeKernel k = withPipe(1, Code.FORK, Code.jumpIfZero(8), Code.push(3), Code.CLOSE, Code.push(2), Code.READ, Code.NOP,
            Code.YIELD, Code.push(3), Code.CLOSE, Code.jump(11));
        Code.runTo(k, 1, 10);
        Check.same("it waits", k.state(0), PipeKernel.READS);
        k.run(1);
        Check.same("the last one is closed", k.pipe(0, 2), 0);
        Check.same("it is READY", k.state(0), PipeKernel.READY);
        Code.runTo(k, 0, 7);
        Check.stack("0 and 0", k, 0, 2, 3, 0, 0, 0);
    }

    /** "If there is a word, this and 1": also without a writing end, till there is none. */
    private static void lastWordsThenNone() {
        PipeKernel k = withPipe(2, Code.push(3), Code.TWICE, Code.WRITE, Code.push(0), Code.push(3), Code.WRITE, Code.push(3),
            Code.CLOSE, Code.push(2), Code.READ, Code.push(2), Code.READ, Code.push(2), Code.READ);
        k.run(14);
        Check.stack("two words, then 0 and 0", k, 0, 2, 3, 1, 1, 0, 3, 1, 0, 1, 0, 0);
    }

    /** READ of IN: "if there is none ... it waits to read". */
    private static void inIsEmpty() {
        PipeKernel k = withTop(0, Code.READ);
        Check.same("READS", k.state(0), PipeKernel.READS);
        Check.stack("nothing is popped", k, 0, 0);
        k.feed(0);
        Check.same("READY", k.state(0), PipeKernel.READY);
        k.run(1);
        Check.stack("the word 0, and 1", k, 0, 0, 1);
    }

    /** "IN is shut": its words are read first; then 0 and 0, as often as one asks. */
    private static void inIsShut() {
        PipeKernel k = Code.booted(100, 1, Code.push(0), Code.READ, Code.push(0), Code.READ, Code.push(0), Code.READ);
        k.feed(-1);
        k.shut();
        k.run(6);
        Check.stack("a word, then none", k, 0, -1, 1, 0, 0, 0, 0);
        Check.same("it did not wait", k.time(), 6);
    }

    /** "If a pipe and two descriptors are free": with one or none it is -1 and -1, and nothing is made. */
    private static void pipeNeedsTwoDescriptors() {
        int[] dups = {4, 5, 6};
        for (int n : dups) {
            PipeKernel k = Code.booted(100, 1, Code.push(0), Code.DUP, Code.DROP, Code.fetch(100), Code.push(1), Code.ADD,
                Code.TWICE, Code.store(100), Code.push(n), Code.SAME, Code.jumpIfZero(0), Code.PIPE, Code.jump(12));
            Code.runTo(k, 0, 12);
            boolean made = n == 4;
            Check.stack("PIPE with " + (6 - n) + " free", k, 0, made ? 6 : -1, made ? 7 : -1);
            Check.same("pipe 0", k.pipe(0, 1) + k.pipe(0, 2), made ? 2 : 0);
            Check.same("open", k.about(0, 5), n == 5 ? 127 : 255);
        }
    }

    /** "The least ones become its reading and, next, its writing end": 6 and 7, or 0 and 7, when only these are free. */
    private static void pipeTakesTheLeastDescriptors() {
        PipeKernel k = Code.booted(100, 1, Code.PIPE, Code.PIPE, Code.PIPE, Code.push(7), Code.CLOSE, Code.push(6), Code.CLOSE,
            Code.PIPE);
        k.run(8);
        Check.same("reading end", k.stack(0, 1), 6);
        Check.same("writing end", k.stack(0, 0), 7);
        Check.same("pipe 2 is the least one that is free", k.descriptor(0, 6), 12);
        Check.same("pipe 2 is the least one that is free", k.descriptor(0, 7), 22);
        PipeKernel apart = Code.booted(100, 1, Code.PIPE, Code.PIPE, Code.push(0), Code.DUP, Code.push(0), Code.CLOSE,
            Code.PIPE);
        apart.run(7);
        Check.same("reading end", apart.stack(0, 1), 0);
        Check.same("writing end", apart.stack(0, 0), 7);
        Check.same("descriptor 0", apart.descriptor(0, 0), 12);
        Check.same("descriptor 7", apart.descriptor(0, 7), 22);
    }

    /** "If a pipe ... [is] free": eight are there, so it is -1 and -1, though all but two descriptors are free. */
    private static void ninthPipe() {
        PipeKernel k = Code.booted(100, 1, Code.PIPE, Code.DROP, Code.DROP, Code.FORK, Code.jumpIfZero(6), Code.WAIT,
            Code.push(2), Code.CLOSE, Code.push(3), Code.CLOSE, Code.DROP, Code.DROP, Code.NUMBER, Code.push(8), Code.SAME,
            Code.jumpIfZero(0), Code.PIPE, Code.jump(17));
        Code.runTo(k, 8, 17);
        for (int p = 0; p < 8; p++) {
            Check.same("pipe " + p, k.pipe(p, 1) * 10 + k.pipe(p, 2), 11);
        }
        Check.stack("none is free", k, 8, -1, -1);
        Check.same("its descriptors", k.about(8, 5), 3);
    }

    /** CLOSE: "-1 if it was or is none." */
    private static void closeOfNone() {
        for (int d : NO_DESCRIPTOR) {
            PipeKernel k = withTop(d, Code.CLOSE);
            Check.stack("CLOSE of " + d, k, 0, -1);
            Check.same("open", k.about(0, 5), 3);
        }
        PipeKernel twice = withTop(1, Code.CLOSE, Code.push(1), Code.CLOSE);
        Check.stack("CLOSE twice", twice, 0, 0, -1);
    }

    /** CLOSE: "descriptor x is closed, 0", of the first and the last and all between. */
    private static void closeEach() {
        for (int d = 0; d < 8; d++) {
            PipeKernel k = Code.booted(100, 1, Code.PIPE, Code.PIPE, Code.PIPE, Code.push(d), Code.CLOSE);
            k.run(5);
            Check.same("CLOSE of " + d, k.stack(0, 0), 0);
            Check.same("the others are open", k.about(0, 5), 255 - (1 << d));
            Check.same("it is closed", k.descriptor(0, d), 0);
        }
    }

    /** DUP: "-1 if x is closed or none." */
    private static void dupOfNone() {
        for (int d : NO_DESCRIPTOR) {
            PipeKernel k = withTop(d, Code.DUP);
            Check.stack("DUP of " + d, k, 0, -1);
            Check.same("open", k.about(0, 5), 3);
        }
        for (int d = 2; d < 8; d++) {
            Check.stack("DUP of " + d, withTop(d, Code.DUP), 0, -1);
        }
    }

    /** DUP: "the least closed descriptor becomes like x ...; -1 if ... none is free." */
    private static void dupIntoTheLast() {
        for (int d = 0; d < 8; d++) {
            int like = d == 6 ? 5 : 6;
            PipeKernel k = Code.booted(100, 1, Code.PIPE, Code.PIPE, Code.PIPE, Code.push(d), Code.CLOSE, Code.push(like),
                Code.DUP, Code.push(like), Code.DUP);
            k.run(9);
            Check.same("the only closed one", k.stack(0, 1), d);
            Check.same("is like " + like, k.descriptor(0, d), k.descriptor(0, like));
            Check.same("then none is free", k.stack(0, 0), -1);
            Check.same("all are open", k.about(0, 5), 255);
        }
    }

    /** FORK copies "descriptors": all eight are ends of pipes, and count twice until the child ends. */
    private static void forkCopiesEveryEnd() {
        PipeKernel k = Code.booted(100, 1, Code.push(0), Code.CLOSE, Code.push(1), Code.CLOSE, Code.PIPE, Code.PIPE, Code.PIPE,
            Code.PIPE, Code.FORK, Code.jumpIfZero(13), Code.YIELD, Code.WAIT, Code.jump(12), Code.EXIT);
        Code.runTo(k, 0, 9);
        for (int d = 0; d < 8; d++) {
            Check.same("descriptor " + d, k.descriptor(1, d), (d % 2 == 0 ? 10 : 20) + d / 2);
        }
        for (int p = 0; p < 4; p++) {
            Check.same("reading ends of pipe " + p, k.pipe(p, 1), 2);
            Check.same("writing ends of pipe " + p, k.pipe(p, 2), 2);
        }
        Code.runTo(k, 0, 11);
        Check.same("the child ENDED", k.state(1), PipeKernel.ENDED);
        for (int p = 0; p < 4; p++) {
            Check.same("reading ends of pipe " + p, k.pipe(p, 1), 1);
            Check.same("writing ends of pipe " + p, k.pipe(p, 2), 1);
        }
    }

    /** Processes 1, 2, 3 READ pipe 0 and wait in this order; process 0 goes on at 40. */
    private static PipeKernel readers(int... atForty) {
        PipeKernel k = Code.booted(100, 4, Code.pieces(
            0, Code.code(Code.PIPE, Code.FORK, Code.jumpIfZero(20), Code.FORK, Code.jumpIfZero(20), Code.FORK,
                Code.jumpIfZero(20), Code.YIELD, Code.jump(40)),
            20, Code.code(Code.push(3), Code.CLOSE, Code.push(2), Code.READ, Code.jump(24)),
            40, atForty));
        Code.runTo(k, 0, 40);
        Check.same("three wait to read", k.pipe(0, 3), 3);
        return k;
    }

    /** "When a word goes into a pipe, the first one of those that wait to read from it (longest) becomes READY." */
    private static void oneWordWakesOne() {
        PipeKernel k = readers(Code.push(3), Code.TWICE, Code.WRITE, Code.push(3), Code.TWICE, Code.WRITE, Code.push(3),
            Code.TWICE, Code.WRITE, Code.push(3), Code.TWICE, Code.WRITE);
        k.run(3);
        Check.queue("one word", k, 0, 1);
        k.run(3);
        Check.queue("two words", k, 0, 1, 2);
        k.run(3);
        Check.queue("three words", k, 0, 1, 2, 3);
        k.run(3);
        Check.queue("none waits for the fourth", k, 0, 1, 2, 3);
        Check.same("four words", k.pipe(0, 0), 4);
        PipeKernel wrong = readers(Code.PIPE, Code.push(9), Code.push(5), Code.WRITE);
        wrong.run(4);
        Check.queue("another pipe's word wakes none", wrong, 0);
    }

    /** Pipe 0 is full; processes 1, 2, 3 wait to write their numbers in this order; process 0 goes on at 40. */
    private static PipeKernel writers(int... atForty) {
        PipeKernel k = Code.booted(100, 2, Code.pieces(
            0, Code.code(Code.PIPE, Code.push(3), Code.TWICE, Code.WRITE, Code.push(3), Code.WRITE,
                Code.FORK, Code.jumpIfZero(20), Code.FORK, Code.jumpIfZero(20), Code.FORK, Code.jumpIfZero(20),
                Code.YIELD, Code.jump(40)),
            20, Code.code(Code.push(2), Code.CLOSE, Code.NUMBER, Code.push(3), Code.WRITE, Code.jump(25)),
            40, atForty));
        Code.runTo(k, 0, 40);
        Check.same("three wait to write", k.pipe(0, 4), 3);
        Check.same("full", k.pipe(0, 0), 2);
        return k;
    }

    /** "When one is taken, the first one of those that wait to write." */
    private static void oneTakenWakesOne() {
        PipeKernel k = writers(Code.push(2), Code.READ, Code.push(2), Code.READ, Code.YIELD, Code.push(2), Code.READ,
            Code.jump(47));
        k.run(2);
        Check.queue("one is taken", k, 0, 1);
        k.run(2);
        Check.queue("two are taken", k, 0, 1, 2);
        Code.runTo(k, 0, 45);
        Check.same("full again", k.pipe(0, 0), 2);
        Check.same("process 3 waits still", k.state(3), PipeKernel.WRITES);
        k.run(2);
        Check.same("process 1's word", k.stack(0, 1), 1);
        Check.same("process 3 is READY", k.state(3), PipeKernel.READY);
    }

    /** "When its last writing end is closed all that wait to read, its last reading end all that wait to write." */
    private static void notTheLastEndWakesNone() {
        PipeKernel k = readers(Code.push(3), Code.DUP, Code.push(3), Code.CLOSE, Code.push(4), Code.CLOSE);
        k.run(4);
        Check.same("one of two", k.pipe(0, 2), 1);
        Check.queue("none wakes", k, 0);
        k.run(2);
        Check.same("the last one", k.pipe(0, 2), 0);
        Check.queue("all, in turn", k, 0, 1, 2, 3);
        PipeKernel w = writers(Code.push(2), Code.DUP, Code.push(2), Code.CLOSE, Code.push(4), Code.CLOSE, Code.YIELD);
        w.run(4);
        Check.same("one of two", w.pipe(0, 1), 1);
        Check.queue("none wakes", w, 0);
        w.run(2);
        Check.queue("all, in turn", w, 0, 1, 2, 3);
        Code.runTo(w, 3, 25);
        for (int p = 1; p <= 3; p++) {
            Check.same("-2 for process " + p, w.stack(p, 0), -2);
        }
        PipeKernel readingEnd = readers(Code.push(2), Code.CLOSE);
        readingEnd.run(2);
        Check.queue("a reading end wakes no reader", readingEnd, 0);
    }

    /** "In their turn they do the same instruction again (and may wait anew, as the latest)." */
    private static void waitsAnewAsTheLatest() {
        PipeKernel k = writers(Code.push(2), Code.READ, Code.push(8), Code.push(3), Code.WRITE, Code.YIELD, Code.push(2),
            Code.READ, Code.jump(48));
        Code.runTo(k, 0, 45);
        Check.queue("process 1 is READY, but its room is taken", k, 0, 1);
        k.run(2);
        Check.same("process 1 waits anew", k.state(1), PipeKernel.WRITES);
        Check.stack("nothing is popped", k, 1, 2, 3, 1, 0, 1, 3);
        Code.runTo(k, 0, 48);
        Check.queue("process 2 is the first one now", k, 0, 2);
    }

    /** "A word for the console's IN makes the first one that waits for it READY, shutting it all, in turn." */
    private static void sixteenWaitForIn() {
        PipeKernel k = Code.booted(100, 1, Code.pieces(
            0, Code.code(Code.FORK, Code.TWICE, Code.jumpIfZero(20), Code.push(15), Code.SAME, Code.jumpIfZero(0), Code.push(0),
                Code.READ, Code.jump(8)),
            20, Code.code(Code.READ, Code.jump(21))));
        Code.steps(k, 400);
        for (int p = 0; p < 16; p++) {
            Check.same("process " + p + " waits", k.state(p), PipeKernel.READS);
        }
        k.feed(7);
        Check.queue("one word, one process", k, 0);
        k.run(1);
        Check.stack("it has got it", k, 0, 7, 1);
        Check.isTrue("shut", k.shut());
        Check.queue("the other fifteen behind it", k, 0, 1, 2, 3, 4, 5, 6, 7, 8, 9, 10, 11, 12, 13, 14, 15);
        Code.steps(k, 15 * 100);
        for (int p = 1; p < 16; p++) {
            Check.stack("0 and 0", k, p, 0, 0);
        }
    }

    private static void shutWakesAllSixteen() {
        PipeKernel k = Code.booted(100, 1, Code.pieces(
            0, Code.code(Code.FORK, Code.TWICE, Code.jumpIfZero(20), Code.push(15), Code.SAME, Code.jumpIfZero(0), Code.push(0)),
            7, Code.code(Code.jump(20)),
            20, Code.code(Code.READ, Code.jump(21))));
        Code.steps(k, 400);
        Check.queue("all wait", k);
        k.shut();
        Check.queue("all sixteen", k, 0, 1, 2, 3, 4, 5, 6, 7, 8, 9, 10, 11, 12, 13, 14, 15);
    }
}

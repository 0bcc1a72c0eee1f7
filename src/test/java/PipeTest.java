/** Descriptors, pipes, the console, and waiting for them. */
public final class PipeTest {
    public static void main(String[] args) {
        console();
        wrongDescriptors();
        pipe();
        pipeWithoutRoom();
        allPipes();
        wordsInTurn();
        close();
        closeTwice();
        duplicates();
        noDescriptorFree();
        noReader();
        noReaderThoughFull();
        noWriter();
        wordsOutliveTheirWriter();
        wordsAreGoneWithThePipe();
        firstReaderWakes();
        firstWriterWakes();
        waitsAnewAsTheLatest();
        lastWriterWakesAll();
        lastReaderWakesAll();
        ownEndsCount();
        killedWhileItWaits();
        oneEndIsEnough();
        lastDescriptorAndPipe();
        Check.done();
    }

    private static void console() {
        PipeKernel k = Code.booted(1, 1, Code.push(65), Code.push(1), Code.WRITE, Code.push(0), Code.READ, Code.jump(5));
        k.run(3);
        Check.stack("WRITE to OUT", k, 0, 1);
        Check.outputs("WRITE to OUT", k, 65);
        k.run(2);
        Check.same("READ waits", k.state(0), PipeKernel.READS);
        Check.same("PLACE stays", k.about(0, 0), 4);
        Check.stack("nothing is popped", k, 0, 1, 0);
        k.feed(-3);
        Check.stack("it reads in its turn only", k, 0, 1, 0);
        k.run(1);
        Check.stack("READ", k, 0, 1, -3, 1);
        Check.same("PLACE grows", k.about(0, 0), 5);
    }

    private static void wrongDescriptors() {
        for (int d : new int[] {0, 2, 3, 7, 8, -1, Integer.MIN_VALUE >> 8, Integer.MAX_VALUE >> 8}) {
            PipeKernel k = Code.booted(1, 1, Code.push(5), Code.push(d), Code.WRITE);
            k.run(3);
            Check.stack("WRITE to " + d, k, 0, -1);
        }
        for (int d : new int[] {1, 2, 3, 7, 8, -1, Integer.MIN_VALUE >> 8, Integer.MAX_VALUE >> 8}) {
            PipeKernel k = Code.booted(1, 1, Code.push(d), Code.READ);
            k.run(2);
            Check.stack("READ from " + d, k, 0, 0, -1);
        }
        PipeKernel ends = Code.booted(1, 1, Code.PIPE, Code.READ, Code.push(5), Code.push(2), Code.WRITE);
        ends.run(5);
        Check.stack("the wrong ends", ends, 0, 2, 0, -1, -1);
        Check.same("nothing went into it", ends.pipe(0, 0), 0);
    }

    private static void pipe() {
        PipeKernel k = Code.booted(1, 4, Code.PIPE, Code.push(0), Code.CLOSE, Code.PIPE);
        k.run(4);
        Check.stack("the least ones: 2 and 3, then 0 and 4", k, 0, 2, 3, 0, 0, 4);
        Check.same("reading end of pipe 0", k.descriptor(0, 2), 10);
        Check.same("writing end of pipe 0", k.descriptor(0, 3), 20);
        Check.same("reading end of pipe 1", k.descriptor(0, 0), 11);
        Check.same("writing end of pipe 1", k.descriptor(0, 4), 21);
        Check.same("the ends", k.pipe(1, 1) * 10 + k.pipe(1, 2), 11);
    }

    private static void pipeWithoutRoom() {
        PipeKernel k = Code.booted(1, 1, Code.PIPE, Code.PIPE, Code.PIPE, Code.PIPE, Code.push(7), Code.CLOSE, Code.PIPE);
        k.run(4);
        Check.stack("no descriptor is free", k, 0, 2, 3, 4, 5, 6, 7, -1, -1);
        Check.same("no pipe is made", k.pipe(3, 1), 0);
        k.run(3);
        Check.stack("only one is free", k, 0, 2, 3, 4, 5, 6, 7, -1, -1, 0, -1, -1);
        Check.same("it stays closed", k.descriptor(0, 7), 0);
        Check.same("no pipe is made", k.pipe(3, 1), 0);
    }

    /** Each process opens three pipes, so the third one finds two left, and none is left for others. */
    private static void allPipes() {
        PipeKernel k = Code.booted(100, 1,
            Code.PIPE, Code.PIPE, Code.PIPE, Code.FORK, Code.jumpIfZero(6), Code.WAIT,
            // The child closes the first four that it got, and opens others.
            Code.push(2), Code.CLOSE, Code.push(3), Code.CLOSE, Code.push(4), Code.CLOSE, Code.push(5), Code.CLOSE,
            Code.PIPE, Code.PIPE, Code.FORK, Code.jumpIfZero(19), Code.WAIT,
            Code.push(2), Code.CLOSE, Code.push(3), Code.CLOSE, Code.push(4), Code.CLOSE, Code.push(5), Code.CLOSE,
            Code.PIPE, Code.PIPE, Code.push(6), Code.CLOSE, Code.push(7), Code.CLOSE, Code.PIPE, Code.PIPE, Code.jump(35));
        Code.steps(k, 80);
        Check.same("process 1 waits", k.state(1), PipeKernel.WAITS);
        Check.same("pipe 3", k.descriptor(1, 2), 13);
        Check.same("pipe 4", k.descriptor(1, 4), 14);
        Check.same("pipe 5", k.descriptor(2, 2), 15);
        Check.same("pipe 6", k.descriptor(2, 4), 16);
        Check.same("pipe 7", k.descriptor(2, 6), 17);
        Check.same("the last pipe is there", k.pipe(7, 2), 1);
        Check.same("no descriptor was free", k.stack(2, 0), -1);
        // Process 2 with two free descriptors, while pipes 0 .. 7 are all there.
        PipeKernel none = Code.booted(100, 1,
            Code.PIPE, Code.PIPE, Code.PIPE, Code.FORK, Code.jumpIfZero(6), Code.WAIT,
            Code.push(2), Code.CLOSE, Code.push(3), Code.CLOSE, Code.push(4), Code.CLOSE, Code.push(5), Code.CLOSE,
            Code.PIPE, Code.PIPE, Code.FORK, Code.jumpIfZero(19), Code.WAIT,
            Code.push(2), Code.CLOSE, Code.push(3), Code.CLOSE, Code.push(4), Code.CLOSE, Code.push(5), Code.CLOSE,
            Code.push(6), Code.CLOSE, Code.push(7), Code.CLOSE,
            Code.PIPE, Code.PIPE, Code.PIPE, Code.push(0), Code.CLOSE, Code.push(1), Code.CLOSE, Code.PIPE, Code.jump(39));
        Code.steps(none, 80);
        Check.same("two descriptors are free", none.about(2, 5), 252);
        Check.same("but no pipe", none.stack(2, 0), -1);
        Check.same("but no pipe", none.stack(2, 1), -1);
    }

    private static void wordsInTurn() {
        // Three words in, two out, two in, three out: the row inside goes round.
        PipeKernel k = Code.booted(1, 3, Code.PIPE, Code.DROP, Code.DROP,
            Code.push(11), Code.push(3), Code.WRITE, Code.push(12), Code.push(3), Code.WRITE,
            Code.push(13), Code.push(3), Code.WRITE, Code.push(2), Code.READ, Code.push(2), Code.READ,
            Code.push(14), Code.push(3), Code.WRITE, Code.push(15), Code.push(3), Code.WRITE,
            Code.push(2), Code.READ, Code.push(2), Code.READ, Code.push(2), Code.READ, Code.jump(28));
        k.run(12);
        Check.same("three words", k.pipe(0, 0), 3);
        k.run(20);
        Check.same("none", k.pipe(0, 0), 0);
        Check.stack("in turn", k, 0, 1, 1, 1, 11, 1, 12, 1, 1, 1, 13, 1, 14, 1, 15, 1);
    }

    private static void close() {
        PipeKernel k = Code.booted(1, 1, Code.push(1), Code.CLOSE, Code.push(7), Code.push(1), Code.WRITE);
        k.run(5);
        Check.stack("CLOSE of OUT", k, 0, 0, -1);
        Check.same("open", k.about(0, 5), 1);
        Check.outputs("OUT is closed", k);
        PipeKernel in = Code.booted(1, 1, Code.push(0), Code.CLOSE, Code.push(0), Code.READ);
        in.run(4);
        Check.stack("CLOSE of IN", in, 0, 0, 0, -1);
    }

    private static void closeTwice() {
        for (int d : new int[] {2, 7, 8, -1, Integer.MIN_VALUE >> 8, Integer.MAX_VALUE >> 8}) {
            PipeKernel k = Code.booted(1, 1, Code.push(d), Code.CLOSE);
            k.run(2);
            Check.stack("CLOSE of " + d, k, 0, -1);
            Check.same("open", k.about(0, 5), 3);
        }
        PipeKernel k = Code.booted(1, 1, Code.push(0), Code.CLOSE, Code.push(0), Code.CLOSE);
        k.run(4);
        Check.stack("CLOSE twice", k, 0, 0, -1);
    }

    private static void duplicates() {
        PipeKernel k = Code.booted(1, 2, Code.PIPE, Code.push(0), Code.CLOSE, Code.push(3), Code.DUP,
            Code.push(2), Code.DUP, Code.push(1), Code.DUP, Code.push(9), Code.push(0), Code.WRITE,
            Code.push(4), Code.READ);
        k.run(9);
        Check.stack("DUP", k, 0, 2, 3, 0, 0, 4, 5);
        Check.same("like 3", k.descriptor(0, 0), 20);
        Check.same("like 2", k.descriptor(0, 4), 10);
        Check.same("like 1", k.descriptor(0, 5), 2);
        Check.same("reading ends", k.pipe(0, 1), 2);
        Check.same("writing ends", k.pipe(0, 2), 2);
        k.run(5);
        Check.stack("the same pipe", k, 0, 2, 3, 0, 0, 4, 5, 1, 9, 1);
    }

    private static void noDescriptorFree() {
        for (int d : new int[] {2, 7, 8, -1, Integer.MIN_VALUE >> 8, Integer.MAX_VALUE >> 8}) {
            PipeKernel k = Code.booted(1, 1, Code.push(d), Code.DUP);
            k.run(2);
            Check.stack("DUP of " + d, k, 0, -1);
            Check.same("open", k.about(0, 5), 3);
        }
        PipeKernel k = Code.booted(1, 1, Code.push(0), Code.DUP, Code.DROP, Code.jump(0));
        k.run(24);
        Check.same("all are open", k.about(0, 5), 255);
        k.run(2);
        Check.stack("none is free", k, 0, -1);
        PipeKernel ends = Code.booted(1, 1, Code.PIPE, Code.PIPE, Code.PIPE, Code.DUP);
        ends.run(4);
        Check.same("none is free", ends.stack(0, 0), -1);
        Check.same("no end more", ends.pipe(2, 2), 1);
    }

    private static void noReader() {
        PipeKernel k = Code.booted(1, 1, Code.PIPE, Code.DROP, Code.CLOSE, Code.push(5), Code.push(3), Code.WRITE);
        k.run(6);
        Check.stack("WRITE without a reading end", k, 0, 0, -2);
        Check.same("no word", k.pipe(0, 0), 0);
        Check.same("it is there", k.pipe(0, 2), 1);
    }

    private static void noReaderThoughFull() {
        PipeKernel k = Code.booted(1, 1, Code.PIPE, Code.push(3), Code.WRITE, Code.DROP,
            Code.push(2), Code.CLOSE, Code.push(5), Code.push(3), Code.WRITE);
        k.run(9);
        Check.stack("-2, not waiting", k, 0, 2, 0, -2);
        Check.same("the word is there", k.pipe(0, 0), 1);
    }

    private static void noWriter() {
        PipeKernel k = Code.booted(1, 1, Code.PIPE, Code.CLOSE, Code.DROP, Code.READ);
        k.run(4);
        Check.stack("READ without a writing end", k, 0, 0, 0);
        Check.same("PLACE", k.about(0, 0), 4);
    }

    private static void wordsOutliveTheirWriter() {
        PipeKernel k = Code.booted(1, 2, Code.PIPE, Code.push(8), Code.push(3), Code.WRITE, Code.DROP,
            Code.CLOSE, Code.DROP, Code.TWICE, Code.READ, Code.DROP, Code.SWAP, Code.READ);
        k.run(12);
        Check.stack("a word, and then none", k, 0, 8, 0, 0);
    }

    private static void wordsAreGoneWithThePipe() {
        PipeKernel k = Code.booted(1, 4, Code.PIPE, Code.push(3), Code.WRITE, Code.DROP,
            Code.push(2), Code.CLOSE, Code.push(3), Code.CLOSE, Code.PIPE, Code.DROP, Code.READ);
        k.run(6);
        Check.same("its word is there", k.pipe(0, 0), 1);
        k.run(2);
        Check.same("its word is gone", k.pipe(0, 0), 0);
        Check.same("its ends are gone", k.pipe(0, 2), 0);
        k.run(3);
        Check.same("the same pipe anew", k.descriptor(0, 2), 10);
        Check.same("has no word", k.state(0), PipeKernel.READS);
        PipeKernel other = Code.booted(1, 4, Code.PIPE, Code.push(3), Code.WRITE, Code.DROP,
            Code.push(3), Code.CLOSE, Code.push(2), Code.CLOSE, Code.jump(8));
        other.run(9);
        Check.same("the reading end last", other.pipe(0, 0), 0);
    }

    /** Processes 1, 2, 3 READ pipe 0, and wait in the order 1, 2, 3; process 0 goes on at place 20. */
    private static PipeKernel threeReaders(int... atTwenty) {
        return three(new int[] {Code.push(3), Code.CLOSE, Code.DROP, Code.push(2), Code.READ, Code.NOP, Code.jump(45)},
            atTwenty);
    }

    /** Processes 1, 2, 3 WRITE their numbers into pipe 0: process 1 fills it, and 2 and 3 wait in that order. */
    private static PipeKernel threeWriters(int... atTwenty) {
        return three(new int[] {Code.push(2), Code.CLOSE, Code.DROP, Code.NUMBER, Code.push(3), Code.WRITE, Code.jump(46)},
            atTwenty);
    }

    private static PipeKernel three(int[] atForty, int[] atTwenty) {
        PipeKernel k = Code.loaded(100, 1, Code.PIPE, Code.DROP, Code.DROP,
            Code.FORK, Code.jumpIfZero(40), Code.FORK, Code.jumpIfZero(40), Code.FORK, Code.jumpIfZero(40),
            Code.YIELD, Code.jump(20));
        for (int i = 0; i < atForty.length; i++) {
            k.load(40 + i, atForty[i]);
        }
        for (int i = 0; i < atTwenty.length; i++) {
            k.load(20 + i, atTwenty[i]);
        }
        k.boot();
        return k;
    }

    private static void firstReaderWakes() {
        PipeKernel k = threeReaders(Code.push(71), Code.push(3), Code.WRITE, Code.YIELD, Code.push(72), Code.push(3),
            Code.WRITE, Code.NOP);
        Code.runTo(k, 0, 22);
        Check.same("all wait", k.pipe(0, 3), 3);
        Check.queue("all wait", k, 0);
        k.run(1);
        Check.queue("the longest one", k, 0, 1);
        Check.same("two wait", k.pipe(0, 3), 2);
        Check.same("the word is in the pipe", k.pipe(0, 0), 1);
        k.run(2);
        Check.stack("it is read", k, 1, 71, 1);
        Code.runTo(k, 1, 45);
    }

    private static void firstWriterWakes() {
        PipeKernel k = threeWriters(Code.push(2), Code.READ, Code.YIELD, Code.push(2), Code.READ, Code.NOP);
        Code.runTo(k, 0, 21);
        Check.same("two wait to write", k.pipe(0, 4), 2);
        Check.same("process 1 has written", k.stack(1, 0), 1);
        Check.same("before", k.state(2), PipeKernel.WRITES);
        int words = k.about(2, 1);
        k.run(1);
        Check.same("process 0 has read", k.stack(0, 1), 1);
        Check.same("process 2 is READY", k.state(2), PipeKernel.READY);
        Check.same("process 3 is not", k.state(3), PipeKernel.WRITES);
        Check.same("the pipe is empty", k.pipe(0, 0), 0);
        Check.same("nothing was popped", k.about(2, 1), words);
        Code.runTo(k, 2, 46);
        Check.same("its word is there", k.pipe(0, 0), 1);
        Check.same("words", k.about(2, 1), words - 1);
        Check.same("1 is pushed", k.stack(2, 0), 1);
    }

    private static void waitsAnewAsTheLatest() {
        // Process 0 writes a word, which wakes process 1, and reads it itself: process 1 waits anew, behind 2 and 3.
        PipeKernel k = threeReaders(Code.push(71), Code.push(3), Code.WRITE, Code.push(2), Code.READ, Code.YIELD,
            Code.push(72), Code.push(3), Code.WRITE, Code.NOP, Code.jump(29));
        Code.runTo(k, 0, 25);
        Check.queue("process 1 is READY", k, 0, 1);
        Check.same("the word is taken", k.pipe(0, 0), 0);
        k.run(2);
        Check.same("process 1 waits anew", k.state(1), PipeKernel.READS);
        Check.same("at the same place", k.about(1, 0), 44);
        Code.runTo(k, 0, 29);
        Check.queue("process 2 is the longest one now", k, 0, 2);
    }

    private static void lastWriterWakesAll() {
        PipeKernel k = threeReaders(Code.NOP, Code.push(3), Code.CLOSE, Code.YIELD, Code.jump(24));
        Code.runTo(k, 0, 22);
        Check.queue("all wait", k, 0);
        k.run(1);
        Check.queue("all, in turn", k, 0, 1, 2, 3);
        k.run(2);
        Check.stack("no word, no writer", k, 1, 0, 0);
        PipeKernel byEnd = threeReaders(Code.NOP, Code.push(7), Code.EXIT);
        Code.runTo(byEnd, 0, 22);
        byEnd.run(1);
        Check.queue("by the end of the last one that writes", byEnd, 1, 2, 3);
    }

    private static void lastReaderWakesAll() {
        PipeKernel k = threeWriters(Code.NOP, Code.push(2), Code.CLOSE, Code.YIELD, Code.jump(23));
        Code.runTo(k, 0, 22);
        Check.same("two wait to write", k.pipe(0, 4), 2);
        Check.same("one reading end", k.pipe(0, 1), 1);
        k.run(1);
        Check.same("process 2 is READY", k.state(2), PipeKernel.READY);
        Check.same("process 3 is READY", k.state(3), PipeKernel.READY);
        Code.runTo(k, 2, 46);
        Check.same("-2 is pushed", k.stack(2, 0), -2);
        Code.runTo(k, 3, 46);
        Check.same("-2 is pushed", k.stack(3, 0), -2);
    }

    private static void oneEndIsEnough() {
        PipeKernel k = Code.booted(1, 1, Code.PIPE, Code.push(2), Code.CLOSE, Code.PIPE, Code.push(4), Code.CLOSE,
            Code.push(2), Code.CLOSE, Code.PIPE, Code.jump(9));
        k.run(4);
        Check.same("pipe 0 has its writing end", k.descriptor(0, 2), 11);
        Check.same("pipe 0 has its writing end", k.descriptor(0, 4), 21);
        k.run(5);
        Check.same("pipe 1 is gone and is the least", k.descriptor(0, 2), 11);
        PipeKernel reads = Code.booted(1, 1, Code.PIPE, Code.push(3), Code.CLOSE, Code.PIPE, Code.jump(4));
        reads.run(4);
        Check.same("pipe 0 has its reading end", reads.descriptor(0, 3), 11);
    }

    /** Process 1 holds pipes 0 .. 2, process 2 has 3 .. 5, process 0 makes 6 and 7; a word goes through 7. */
    private static void lastDescriptorAndPipe() {
        PipeKernel k = Code.booted(100, 2,
            Code.FORK, Code.jumpIfZero(30), Code.YIELD, Code.FORK, Code.jumpIfZero(30), Code.YIELD,
            Code.push(0), Code.DUP, Code.push(0), Code.DUP, Code.PIPE, Code.PIPE,
            Code.push(77), Code.push(7), Code.WRITE, Code.push(6), Code.READ, Code.FORK, Code.jumpIfZero(35),
            Code.push(5), Code.push(7), Code.WRITE, Code.TWICE, Code.push(7), Code.WRITE, Code.TWICE, Code.push(7), Code.WRITE,
            0, 0, Code.PIPE, Code.PIPE, Code.PIPE, Code.push(20), Code.jump(36), Code.push(90), Code.push(50), Code.MUL,
            Code.SLEEP);
        Code.steps(k, 80);
        Check.same("descriptor 6", k.descriptor(0, 6), 17);
        Check.same("descriptor 7", k.descriptor(0, 7), 27);
        Check.same("process 0 waits", k.state(0), PipeKernel.WRITES);
        Check.same("one waits to write", k.pipe(7, 4), 1);
        Check.same("words", k.pipe(7, 0), 2);
        Check.same("the child has them too", k.descriptor(3, 6), 17);
        Check.same("the child has them too", k.descriptor(3, 7), 27);
        Check.same("reading ends", k.pipe(7, 1), 2);
        Check.same("writing ends", k.pipe(7, 2), 2);
    }

    private static void ownEndsCount() {
        PipeKernel k = Code.booted(1, 1, Code.PIPE, Code.DROP, Code.READ);
        Code.steps(k, 40);
        Check.same("it waits for its own word", k.state(0), PipeKernel.READS);
        Check.same("none is READY", k.run(40), 0);
    }

    /** The reader that is killed waits no more: the word wakes the next one. */
    private static void killedWhileItWaits() {
        PipeKernel k = threeReaders(Code.push(1), Code.KILL, Code.push(71), Code.push(3), Code.WRITE, Code.YIELD);
        Code.runTo(k, 0, 21);
        k.run(1);
        Check.same("two wait", k.pipe(0, 3), 2);
        Check.same("its reading end is closed", k.pipe(0, 1), 3);
        Code.runTo(k, 0, 24);
        k.run(1);
        Check.queue("the next one", k, 0, 2);
        // It waits to write, and has the last reading end itself: closing that must not wake it.
        PipeKernel own = Code.booted(100, 1, Code.FORK, Code.jumpIfZero(10), Code.YIELD, Code.push(1), Code.KILL, Code.jump(5),
            0, 0, 0, 0, Code.PIPE, Code.push(3), Code.WRITE, Code.DROP, Code.push(3), Code.TWICE, Code.WRITE);
        Code.runTo(own, 0, 4);
        Check.same("it waits to write", own.state(1), PipeKernel.WRITES);
        own.run(1);
        Check.same("it is ENDED", own.state(1), PipeKernel.ENDED);
        Check.queue("and not READY", own, 0);
        Check.same("the pipe is gone", own.pipe(0, 0) + own.pipe(0, 1) + own.pipe(0, 2) + own.pipe(0, 4), 0);
    }
}

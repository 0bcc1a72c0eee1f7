/** The table of kinds, the stack's and the memory's bounds, and the FAULTs in their order. */
public final class InstructionTest {
    private static final int LEAST = Integer.MIN_VALUE;
    private static final int MOST = Integer.MAX_VALUE;
    /** Where the child's program begins: process 0 goes round before it. */
    private static final int CHILD = 3;

    public static void main(String[] args) {
        words();
        arithmetic();
        bits();
        comparisons();
        memory();
        jumps();
        places();
        operands();
        kinds();
        tooFewWords();
        tooManyWords();
        noRoomIsNeeded();
        quotients();
        orderOfFaults();
        faultsLeaveAll();
        waitingIsNoFault();
        Check.done();
    }

    private static void stackIs(String what, int[] program, int... due) {
        PipeKernel k = Code.booted(100, 1, program);
        for (int left = program.length; left > 0; left -= 40) {
            k.run(Math.min(40, left));
        }
        Check.stack(what, k, 0, due);
        Check.same(what + ": PLACE", k.about(0, 0), program.length);
    }

    /** Process 1 runs the program till it has ended; process 0 is its parent and goes round. */
    private static PipeKernel childOf(int... program) {
        int[] all = new int[CHILD + program.length];
        all[0] = Code.FORK;
        all[1] = Code.jumpIfZero(CHILD);
        all[2] = Code.jump(2);
        System.arraycopy(program, 0, all, CHILD, program.length);
        PipeKernel k = Code.booted(1, 1, all);
        for (int i = 0; i < 400 && k.state(1) != PipeKernel.ENDED; i++) {
            k.run(1);
        }
        return k;
    }

    private static void faultIs(String what, int fault, int... program) {
        PipeKernel k = childOf(program);
        Check.same(what + ": state", k.state(1), PipeKernel.ENDED);
        Check.same(what + ": CODE", k.about(1, 3), -1000 - fault);
    }

    private static int[] code(int... program) {
        return program;
    }

    private static int[] filled(int words, int... behind) {
        int[] all = new int[words + behind.length];
        for (int i = 0; i < words; i++) {
            all[i] = Code.push(i);
        }
        System.arraycopy(behind, 0, all, words, behind.length);
        return all;
    }

    private static void words() {
        stackIs("0", code(Code.NOP));
        stackIs("1", code(Code.push(7)), 7);
        stackIs("1", code(Code.push(-8388608), Code.push(8388607)), -8388608, 8388607);
        stackIs("2", code(Code.push(7), Code.push(8), Code.DROP), 7);
        stackIs("3", code(Code.push(7), Code.TWICE), 7, 7);
        stackIs("4", code(Code.push(5), Code.push(7), Code.push(8), Code.SWAP), 5, 8, 7);
        stackIs("31", code(Code.NUMBER), 0);
        PipeKernel k = childOf(Code.NUMBER, Code.EXIT);
        Check.same("31 of a child", k.about(1, 3), 1);
    }

    /** Both numbers are taken from the memory, so that they may be any ints. */
    private static void resultIs(int kind, int x, int y, int due) {
        PipeKernel k = new PipeKernel(1, 1);
        k.load(0, Code.fetch(100));
        k.load(1, Code.fetch(101));
        k.load(2, kind);
        k.load(100, x);
        k.load(101, y);
        k.boot();
        k.run(3);
        Check.stack("kind " + kind + " of " + x + " and " + y, k, 0, due);
    }

    private static void arithmetic() {
        resultIs(Code.ADD, 7, -3, 4);
        resultIs(Code.ADD, MOST, 1, LEAST);
        resultIs(Code.SUB, 7, -3, 10);
        resultIs(Code.SUB, LEAST, 1, MOST);
        resultIs(Code.MUL, 7, -3, -21);
        resultIs(Code.MUL, MOST, 2, -2);
        resultIs(Code.DIV, 7, 2, 3);
        resultIs(Code.DIV, -7, 2, -3);
        resultIs(Code.DIV, 7, -2, -3);
        resultIs(Code.DIV, LEAST, -1, LEAST);
        resultIs(Code.DIV, 0, 5, 0);
        resultIs(Code.REM, 7, 4, 3);
        resultIs(Code.REM, -7, 4, -3);
        resultIs(Code.REM, 7, -4, 3);
        resultIs(Code.REM, LEAST, -1, 0);
    }

    private static void bits() {
        resultIs(Code.AND, 12, 10, 8);
        resultIs(Code.OR, 12, 10, 14);
        resultIs(Code.XOR, 12, 10, 6);
        resultIs(Code.SHL, 3, 4, 48);
        resultIs(Code.SHL, 3, 36, 48);
        resultIs(Code.SHL, 1, 31, LEAST);
        resultIs(Code.SHL, 1, -1, LEAST);
        resultIs(Code.SHL, 5, 32, 5);
        resultIs(Code.SHR, 48, 4, 3);
        resultIs(Code.SHR, -48, 4, -3);
        resultIs(Code.SHR, LEAST, 31, -1);
        resultIs(Code.SHR, LEAST, -1, -1);
        resultIs(Code.SHR, -48, 33, -24);
    }

    private static void comparisons() {
        resultIs(Code.LESS, 3, 4, 1);
        resultIs(Code.LESS, 4, 4, 0);
        resultIs(Code.LESS, 5, 4, 0);
        resultIs(Code.LESS, LEAST, MOST, 1);
        resultIs(Code.LESS, MOST, LEAST, 0);
        resultIs(Code.SAME, 4, 4, 1);
        resultIs(Code.SAME, 4, -4, 0);
        stackIs("17 of 0", code(Code.push(0), Code.NOT), 1);
        stackIs("17 of 1", code(Code.push(1), Code.NOT), 0);
        stackIs("17 of -5", code(Code.push(-5), Code.NOT), 0);
    }

    private static void memory() {
        stackIs("18", code(Code.fetch(0), Code.fetch(127)), Code.fetch(0), 0);
        stackIs("19", code(Code.push(9), Code.store(127), Code.fetch(127)), 9);
        stackIs("20", code(Code.push(1), Code.FETCH_AT), Code.FETCH_AT);
        stackIs("21", code(Code.push(9), Code.push(100), Code.STORE_AT, Code.fetch(100), Code.fetch(9)), 9, 0);
        // It writes over its next instruction.
        stackIs("19 of a program", code(Code.push(Code.NUMBER), Code.store(2), Code.push(5)), 0);
        for (int wrong : new int[] {-1, 128, -8388608, 8388607}) {
            faultIs("18 at " + wrong, 3, Code.fetch(wrong));
            faultIs("19 at " + wrong, 3, Code.push(1), Code.store(wrong));
            faultIs("20 at " + wrong, 3, Code.push(wrong), Code.FETCH_AT);
            faultIs("21 at " + wrong, 3, Code.push(1), Code.push(wrong), Code.STORE_AT);
        }
        stackIs("21 to 127", code(Code.push(500), Code.push(127), Code.STORE_AT, Code.fetch(127)), 500);
        stackIs("20 of 127", code(Code.push(127), Code.FETCH_AT), 0);
    }

    private static void jumps() {
        PipeKernel k = Code.booted(1, 1, Code.jump(100));
        k.run(1);
        Check.same("22", k.about(0, 0), 100);
        k = Code.booted(1, 1, Code.push(0), Code.jumpIfZero(100));
        k.run(2);
        Check.same("23 of 0", k.about(0, 0), 100);
        Check.stack("23 of 0", k, 0);
        k = Code.booted(1, 1, Code.push(-1), Code.jumpIfZero(100));
        k.run(2);
        Check.same("23 of -1", k.about(0, 0), 2);
        Check.stack("23 of -1", k, 0);
        k = Code.booted(1, 1, Code.NOP, Code.call(100));
        k.run(2);
        Check.same("24", k.about(0, 0), 100);
        Check.stack("24", k, 0, 2);
        k = Code.booted(1, 1, Code.push(77), Code.push(50), Code.RETURN);
        k.run(3);
        Check.same("25", k.about(0, 0), 50);
        Check.stack("25", k, 0, 77);
    }

    private static void places() {
        for (int wrong : new int[] {-1, 128, -8388608, 8388607}) {
            faultIs("22 to " + wrong, 4, Code.jump(wrong));
            faultIs("23 to " + wrong, 4, Code.push(0), Code.jumpIfZero(wrong));
            faultIs("24 to " + wrong, 4, Code.call(wrong));
            faultIs("25 to " + wrong, 4, Code.push(wrong), Code.RETURN);
            PipeKernel k = childOf(Code.jump(wrong));
            Check.same("PLACE stays at " + wrong, k.about(1, 0), wrong);
        }
        PipeKernel last = Code.loaded(1, 1, Code.jump(127));
        last.load(127, Code.NUMBER);
        last.boot();
        last.run(2);
        Check.same("place 127 is done", last.about(0, 0), 128);
        Check.stack("place 127 is done", last, 0, 0);
        last.run(1);
        Check.same("place 128 is none", last.state(0), 0);
    }

    /** What stands in front of the kind is free where it is not used. */
    private static void operands() {
        stackIs("2 with a = 5", code(Code.push(7), Code.of(2, 5)));
        stackIs("5 with a = -1", code(Code.push(7), Code.push(8), Code.of(5, -1)), 15);
        stackIs("31 with a = -1", code(Code.of(31, -1)), 0);
        stackIs("0 with a = 99999", code(Code.of(0, 99999)));
        stackIs("the least one is 0 with a sign", code(LEAST));
    }

    private static void kinds() {
        for (int kind = 0; kind < 256; kind++) {
            boolean there = kind <= 25 || kind >= 30 && kind <= 41;
            PipeKernel k = childOf(Code.push(1), Code.push(2), Code.push(3), Code.of(kind, 10), Code.push(5), Code.EXIT);
            if (!there) {
                Check.same("kind " + kind, k.about(1, 3), -1005);
                Check.same("kind " + kind + ": PLACE", k.about(1, 0), CHILD + 3);
                Check.stack("kind " + kind, k, 1, 1, 2, 3);
            } else {
                Check.isTrue("kind " + kind + " is there", k.state(1) != PipeKernel.ENDED || k.about(1, 3) != -1005);
            }
        }
        faultIs("kind 26 before an empty stack", 5, 26);
        faultIs("kind 255, a being -1", 5, -1);
        faultIs("kind 42", 5, Code.of(42, -3));
    }

    private static void tooFewWords() {
        int[] one = {2, 3, 17, 20, 25, 30, 34, 37, 39, 40, 41};
        int[] two = {4, 5, 6, 7, 8, 9, 10, 11, 12, 13, 14, 15, 16, 21, 33};
        for (int kind : one) {
            faultIs("kind " + kind + " on an empty stack", 1, kind);
        }
        faultIs("19 on an empty stack", 1, Code.store(100));
        faultIs("23 on an empty stack", 1, Code.jumpIfZero(100));
        for (int kind : two) {
            faultIs("kind " + kind + " on an empty stack", 1, kind);
            faultIs("kind " + kind + " on one word", 1, Code.push(1), kind);
        }
    }

    private static void tooManyWords() {
        int[] one = {Code.push(1), Code.TWICE, Code.fetch(0), Code.call(120), Code.NUMBER, Code.FORK};
        for (int word : one) {
            faultIs("kind " + (word & 255) + " on 32 words", 2, filled(32, word));
            fits("kind " + (word & 255) + " on 31 words", filled(31, word));
        }
        faultIs("PIPE on 31 words", 2, filled(31, Code.PIPE));
        faultIs("PIPE on 32 words", 2, filled(32, Code.PIPE));
        fits("PIPE on 30 words", filled(30, Code.PIPE));
        faultIs("WAIT without a child on 31 words", 2, filled(31, Code.WAIT));
        faultIs("WAIT without a child on 32 words", 2, filled(32, Code.WAIT));
        fits("WAIT without a child on 30 words", filled(30, Code.WAIT));
        faultIs("READ of what can't be read on 32 words", 2, filled(31, Code.push(1), Code.READ));
        fits("READ of what can't be read on 31 words", filled(30, Code.push(1), Code.READ));
    }

    /** What follows the program is no kind at all, so that the child ends by FAULT 5 if it did not by FAULT 2. */
    private static void fits(String what, int... program) {
        int[] all = java.util.Arrays.copyOf(program, program.length + 1);
        all[program.length] = 200;
        PipeKernel k = childOf(all);
        Check.isTrue(what + ": no FAULT 2", k.state(1) != PipeKernel.ENDED || k.about(1, 3) != -1002);
    }

    private static void noRoomIsNeeded() {
        int[] same = {Code.NOP, Code.DROP, Code.SWAP, Code.ADD, Code.NOT, Code.store(100), Code.FETCH_AT, Code.STORE_AT,
            Code.YIELD, Code.WRITE, Code.KILL, Code.CLOSE, Code.DUP, Code.SLEEP};
        for (int word : same) {
            // The 32nd word is 31: a place, and none of the processes and descriptors.
            fits("kind " + (word & 255) + " on 32 words", filled(32, word));
        }
    }

    private static void quotients() {
        faultIs("8 by 0", 6, Code.push(5), Code.push(0), Code.DIV);
        faultIs("9 by 0", 6, Code.push(5), Code.push(0), Code.REM);
        faultIs("8 of 0 by 0", 6, Code.push(0), Code.push(0), Code.DIV);
        stackIs("8 of 0", code(Code.push(0), Code.push(5), Code.DIV), 0);
    }

    private static void orderOfFaults() {
        faultIs("1 before 6", 1, Code.push(0), Code.DIV);
        faultIs("1 before 3 of 19", 1, Code.store(128));
        faultIs("1 before 3 of 21", 1, Code.push(128), Code.STORE_AT);
        faultIs("3 before 2 of 18", 3, filled(32, Code.fetch(128)));
        faultIs("5 before 2", 5, filled(32, 99));
        faultIs("4 before 1", 4, Code.jump(128));
    }

    private static void faultsLeaveAll() {
        PipeKernel k = childOf(Code.push(5), Code.push(0), Code.DIV);
        Check.stack("the stack stays", k, 1, 5, 0);
        Check.same("PLACE stays", k.about(1, 0), CHILD + 2);
        k = childOf(Code.push(5), Code.push(128), Code.STORE_AT);
        Check.stack("the stack stays", k, 1, 5, 128);
        k = childOf(filled(32, Code.FORK));
        Check.same("no child is made", k.state(2), 0);
        k = childOf(filled(31, Code.PIPE));
        Check.same("no pipe is made", k.pipe(0, 1), 0);
        k = childOf(filled(32, Code.call(50)));
        Check.same("24 does not jump", k.about(1, 0), CHILD + 32);
        PipeKernel reads = childOf(filled(31, Code.push(0), Code.READ));
        Check.same("it waits to read", reads.state(1), PipeKernel.READS);
        Check.same("a word comes", reads.feed(5), 1);
        reads.run(2);
        Check.same("then it is FAULT 2", reads.about(1, 3), -1002);
        Check.same("the word is not taken", reads.feed(6), 2);
        Check.same("its words", reads.about(1, 1), 32);
        others();
    }

    private static void others() {
        PipeKernel k = childOf(Code.DROP);
        Check.same("it alone ends", k.state(0), PipeKernel.READY);
        Check.same("the other goes on", k.run(40), 40);
    }

    private static void waitingIsNoFault() {
        PipeKernel reads = childOf(filled(31, Code.push(0), Code.READ));
        Check.same("READ waits on 32 words", reads.state(1), PipeKernel.READS);
        // The child of process 1 reads and so does not end: process 1 waits for it on 32 words.
        int[] program = new int[40];
        program[0] = Code.FORK;
        program[1] = Code.jumpIfZero(CHILD + 35);
        for (int i = 2; i < 34; i++) {
            program[i] = Code.push(i);
        }
        program[34] = Code.WAIT;
        program[35] = Code.push(0);
        program[36] = Code.READ;
        program[37] = Code.push(4);
        program[38] = Code.EXIT;
        PipeKernel waits = childOf(program);
        Check.same("WAIT waits on 32 words", waits.state(1), PipeKernel.WAITS);
        Check.same("WAIT stays at its place", waits.about(1, 0), CHILD + 34);
        waits.feed(1);
        for (int i = 0; i < 40 && waits.state(1) != PipeKernel.ENDED; i++) {
            waits.run(1);
        }
        Check.same("then it is FAULT 2", waits.about(1, 3), -1002);
        Check.same("the child is not gone, but process 0's", waits.about(2, 2), 0);
        Check.same("and it ENDED", waits.about(2, 3), 4);
    }
}

/**
 * The sentences of "AN INSTRUCTION" that name a boundary, each with a test of its own. Process 1 does one instruction
 * on a stack that may hold any ints, while process 0, its parent, sleeps: so the CODE of a FAULT can be seen.
 */
public final class InstructionEdgeTest {
    private static final int LEAST = Integer.MIN_VALUE;
    private static final int MOST = Integer.MAX_VALUE;
    /** Where process 1 begins, and where the words lie that it pushes. */
    private static final int BEGIN = 4;
    private static final int WORDS = 90;
    private static final int[] EDGES = {LEAST, LEAST + 1, -33, -32, -31, -1, 0, 1, 2, 31, 32, 33, 127, 128, MOST - 1, MOST};

    /** Of each kind: a word of it, how many words it looks at, by how many the stack grows, and a top that is no FAULT. */
    private static final int[][] KINDS = {
        {Code.NOP, 0, 0, 1}, {Code.push(7), 0, 1, 1}, {Code.DROP, 1, -1, 1}, {Code.TWICE, 1, 1, 1}, {Code.SWAP, 2, 0, 1},
        {Code.ADD, 2, -1, 1}, {Code.SUB, 2, -1, 1}, {Code.MUL, 2, -1, 1}, {Code.DIV, 2, -1, 1}, {Code.REM, 2, -1, 1},
        {Code.AND, 2, -1, 1}, {Code.OR, 2, -1, 1}, {Code.XOR, 2, -1, 1}, {Code.SHL, 2, -1, 1}, {Code.SHR, 2, -1, 1},
        {Code.LESS, 2, -1, 1}, {Code.SAME, 2, -1, 1}, {Code.NOT, 1, 0, 1},
        {Code.fetch(0), 0, 1, 1}, {Code.store(0), 1, -1, 1}, {Code.FETCH_AT, 1, 0, 1}, {Code.STORE_AT, 2, -2, 1},
        {Code.jump(60), 0, 0, 1}, {Code.jumpIfZero(60), 1, -1, 1}, {Code.call(60), 0, 1, 1}, {Code.RETURN, 1, -1, 60},
        {Code.EXIT, 1, -1, 1}, {Code.NUMBER, 0, 1, 1}, {Code.YIELD, 0, 0, 1}, {Code.WRITE, 2, -1, 1}, {Code.READ, 1, 1, 1},
        {Code.FORK, 0, 1, 1}, {Code.WAIT, 0, 2, 1}, {Code.KILL, 1, 0, 9}, {Code.PIPE, 0, 2, 1}, {Code.CLOSE, 1, 0, 1},
        {Code.DUP, 1, 0, 1}, {Code.SLEEP, 1, 0, 1}};

    public static void main(String[] args) {
        operandHasASign();
        placeMustBeThere();
        placeGrowsBehindTheLastOne();
        wrapping();
        leastOneByMinusOne();
        divisorIsZero();
        shiftsByTheLowestFiveBits();
        lessAndSame();
        isItZero();
        noSuchPlaceForOperand();
        noSuchPlaceOnTheStack();
        firstAndLastPlace();
        jumpsAnywhere();
        callPushesThePlaceBehindIt();
        anotherKind();
        fewerWordsThanItLooksAt();
        justAsManyWords();
        moreThan32();
        just32();
        poppedCountsNoMore();
        nothingElseIsDone();
        readWithoutRoomTakesNothing();
        waitWithoutRoomTakesNoChild();
        firstFaultOfSeveral();
        noFaultWhereItBeginsToWait();
        faultEndsItAlone();
        Check.done();
    }

    private static PipeKernel before(int word, int... stack) {
        PipeKernel k = Code.loaded(100, 2, Code.FORK, Code.jumpIfZero(BEGIN), Code.push(100000), Code.SLEEP);
        for (int i = 0; i < stack.length; i++) {
            k.load(BEGIN + i, Code.fetch(WORDS + i));
            k.load(WORDS + i, stack[i]);
        }
        k.load(BEGIN + stack.length, word);
        k.boot();
        Code.steps(k, BEGIN + 1 + stack.length);
        return k;
    }

    private static PipeKernel behind(int word, int... stack) {
        PipeKernel k = before(word, stack);
        k.run(1);
        return k;
    }

    private static void stackIs(String what, int word, int[] stack, int... due) {
        PipeKernel k = behind(word, stack);
        Check.same(what + ": READY", k.state(1), PipeKernel.READY);
        Check.same(what + ": PLACE", k.about(1, 0), BEGIN + stack.length + 1);
        Check.stack(what, k, 1, due);
    }

    /** PLACE and stack stay, too. */
    private static PipeKernel faultIs(String what, int fault, int word, int... stack) {
        PipeKernel k = behind(word, stack);
        Check.same(what + ": ENDED", k.state(1), PipeKernel.ENDED);
        Check.same(what + ": CODE", k.about(1, 3), -1000 - fault);
        Check.same(what + ": PLACE stays", k.about(1, 0), BEGIN + stack.length);
        Check.stack(what + ": the stack stays", k, 1, stack);
        return k;
    }

    private static int[] of(int... words) {
        return words;
    }

    /** So many words, the last one being the top. */
    private static int[] filled(int height, int top) {
        int[] words = new int[height];
        for (int i = 0; i < height; i++) {
            words[i] = i == height - 1 ? top : 40 + i;
        }
        return words;
    }

    private static String named(int word) {
        return "kind " + (word & 255);
    }

    /** "256 * a + its kind (0 .. 255), a having a sign." */
    private static void operandHasASign() {
        stackIs("a is 0", 1, of(), 0);
        stackIs("a is -1", 1 - 256, of(), -1);
        stackIs("a is 1", 1 + 256, of(), 1);
        stackIs("the least a", LEAST + 1, of(), -8388608);
        stackIs("the greatest a", 0x7FFFFF01, of(), 8388607);
        faultIs("the greatest word is kind 255", 5, MOST);
        faultIs("-1 is kind 255", 5, -1);
        stackIs("the least word is kind 0", LEAST, of());
    }

    /** "First PLACE must be 0 .. 127 (else FAULT 4)." */
    private static void placeMustBeThere() {
        for (int place : new int[] {-1, 128, 129, -128, 255, LEAST, MOST}) {
            PipeKernel k = behind(Code.RETURN, 5, place);
            Check.same("it goes to " + place, k.about(1, 0), place);
            Check.same("it is READY there", k.state(1), PipeKernel.READY);
            k.run(1);
            Check.same("FAULT 4 at " + place, k.about(1, 3), -1004);
            Check.same("PLACE stays at " + place, k.about(1, 0), place);
            Check.stack("the stack stays", k, 1, 5);
        }
        for (int place : new int[] {0, 127}) {
            PipeKernel k = behind(Code.RETURN, place);
            k.run(1);
            Check.isTrue("no FAULT 4 at " + place, k.state(1) == PipeKernel.READY);
        }
    }

    /** "PLACE grows by 1": from 127 to 128, where there is no instruction. */
    private static void placeGrowsBehindTheLastOne() {
        PipeKernel k = behind(Code.RETURN, 127);
        k.run(1);
        Check.same("behind the last one", k.about(1, 0), 128);
        k.run(1);
        Check.same("FAULT 4", k.about(1, 3), -1004);
        Check.same("PLACE stays", k.about(1, 0), 128);
    }

    /** "As ints, wrapping." */
    private static void wrapping() {
        for (int x : EDGES) {
            for (int y : EDGES) {
                stackIs(x + " + " + y, Code.ADD, of(x, y), (int) ((long) x + y));
                stackIs(x + " - " + y, Code.SUB, of(x, y), (int) ((long) x - y));
                stackIs(x + " * " + y, Code.MUL, of(x, y), (int) ((long) x * y));
                if (y != 0) {
                    stackIs(x + " / " + y, Code.DIV, of(x, y), (int) ((long) x / y));
                    stackIs(x + " % " + y, Code.REM, of(x, y), (int) ((long) x % y));
                }
            }
        }
        stackIs("the greatest one + 1", Code.ADD, of(MOST, 1), LEAST);
        stackIs("the least one - 1", Code.SUB, of(LEAST, 1), MOST);
        stackIs("the least one * -1", Code.MUL, of(LEAST, -1), LEAST);
    }

    /** "Of the least one and -1 the least one, and 0." */
    private static void leastOneByMinusOne() {
        stackIs("the least one / -1", Code.DIV, of(LEAST, -1), LEAST);
        stackIs("the least one % -1", Code.REM, of(LEAST, -1), 0);
    }

    /** "FAULT 6 if y is 0." */
    private static void divisorIsZero() {
        for (int x : EDGES) {
            faultIs(x + " / 0", 6, Code.DIV, x, 0);
            faultIs(x + " % 0", 6, Code.REM, x, 0);
        }
        stackIs("0 / 1", Code.DIV, of(0, 1), 0);
        stackIs("0 % -1", Code.REM, of(0, -1), 0);
    }

    /** "13 x shifted up, 14 down with sign, by the lowest five bits of y." */
    private static void shiftsByTheLowestFiveBits() {
        int[][] bits = {{0, 0}, {1, 1}, {31, 31}, {32, 0}, {33, 1}, {63, 31}, {64, 0}, {-1, 31}, {-31, 1}, {-32, 0},
            {LEAST, 0}, {MOST, 31}};
        for (int[] y : bits) {
            stackIs("5 up by " + y[0], Code.SHL, of(5, y[0]), (int) (5L << y[1]));
            stackIs("the least one down by " + y[0], Code.SHR, of(LEAST, y[0]), (int) ((long) LEAST >> y[1]));
            stackIs("the greatest one down by " + y[0], Code.SHR, of(MOST, y[0]), MOST >> y[1]);
        }
        stackIs("all but the sign is lost", Code.SHL, of(-1, 31), LEAST);
        stackIs("only the sign is left", Code.SHR, of(LEAST, 31), -1);
    }

    /** "15 1 if x is less than y, else 0; 16 1 if they are the same, else 0." */
    private static void lessAndSame() {
        for (int i = 0; i < EDGES.length; i++) {
            for (int j = 0; j < EDGES.length; j++) {
                stackIs(EDGES[i] + " < " + EDGES[j], Code.LESS, of(EDGES[i], EDGES[j]), i < j ? 1 : 0);
                stackIs(EDGES[i] + " is " + EDGES[j], Code.SAME, of(EDGES[i], EDGES[j]), i == j ? 1 : 0);
            }
        }
    }

    /** "17 pop x, push 1 if it is 0, else 0." */
    private static void isItZero() {
        for (int x : EDGES) {
            stackIs("not " + x, Code.NOT, of(x), x == 0 ? 1 : 0);
        }
    }

    /** "FAULT 3: there is no such place in MEMORY", of 18 and 19. */
    private static void noSuchPlaceForOperand() {
        for (int a : new int[] {-1, 128, 129, -128, -8388608, 8388607}) {
            faultIs("18 at " + a, 3, Code.fetch(a));
            faultIs("19 at " + a, 3, Code.store(a), 5);
        }
    }

    /** "FAULT 3: there is no such place in MEMORY", of 20 and 21. */
    private static void noSuchPlaceOnTheStack() {
        for (int place : new int[] {-1, 128, 129, -128, LEAST, MOST}) {
            faultIs("20 at " + place, 3, Code.FETCH_AT, place);
            faultIs("21 at " + place, 3, Code.STORE_AT, 5, place);
        }
        PipeKernel k = behind(Code.STORE_AT, 128, 1);
        Check.same("21: x may be any word", k.memory(1, 1), 128);
    }

    private static void firstAndLastPlace() {
        for (int place : new int[] {0, 127}) {
            int there = before(Code.NOP).memory(1, place);
            stackIs("18 at " + place, Code.fetch(place), of(), there);
            stackIs("20 at " + place, Code.FETCH_AT, of(place), there);
            PipeKernel k = behind(Code.store(place), LEAST);
            Check.same("19 at " + place, k.memory(1, place), LEAST);
            Check.same("19: the parent's stays", k.memory(0, place), there);
            k = behind(Code.STORE_AT, MOST, place);
            Check.same("21 at " + place, k.memory(1, place), MOST);
            Check.stack("21 pops both", k, 1);
        }
    }

    /** "22 PLACE is a. 23 pop x; if it is 0, PLACE is a." */
    private static void jumpsAnywhere() {
        for (int a : new int[] {0, 127, 128, -1, -8388608, 8388607}) {
            Check.same("22 to " + a, behind(Code.jump(a)).about(1, 0), a);
            Check.same("23 of 0 to " + a, behind(Code.jumpIfZero(a), 0).about(1, 0), a);
            for (int x : new int[] {1, -1, LEAST, MOST}) {
                PipeKernel k = behind(Code.jumpIfZero(a), x);
                Check.same("23 of " + x + " to " + a, k.about(1, 0), BEGIN + 2);
                Check.stack("23 pops it", k, 1);
            }
        }
    }

    /** "24 push PLACE + 1; PLACE is a": at the last place this is 128. */
    private static void callPushesThePlaceBehindIt() {
        PipeKernel k = Code.loaded(1, 1, Code.jump(127));
        k.load(127, Code.call(-5));
        k.boot();
        k.run(2);
        Check.stack("24 at 127", k, 0, 128);
        Check.same("24 at 127", k.about(0, 0), -5);
    }

    /** "Another kind is FAULT 5." */
    private static void anotherKind() {
        for (int kind = 0; kind < 256; kind++) {
            boolean there = kind <= 25 || kind >= 30 && kind <= 41;
            for (int a : new int[] {0, 1, -1, -8388608, 8388607}) {
                if (!there) {
                    faultIs("kind " + kind, 5, 256 * a + kind, 1, 2, 3);
                }
            }
        }
        Check.same("all others are in the list", KINDS.length, 26 + 12);
    }

    /** "FAULT 1: fewer words on the stack than it looks at." */
    private static void fewerWordsThanItLooksAt() {
        for (int[] kind : KINDS) {
            for (int height = 0; height < kind[1]; height++) {
                faultIs(named(kind[0]) + " on " + height, 1, kind[0], filled(height, kind[3]));
            }
        }
    }

    private static void justAsManyWords() {
        for (int[] kind : KINDS) {
            heightGrows(kind, kind[1]);
        }
    }

    /** "2: more than 32 behind it." */
    private static void moreThan32() {
        for (int[] kind : KINDS) {
            for (int height = 33 - kind[2]; height <= 32; height++) {
                faultIs(named(kind[0]) + " on " + height, 2, kind[0], filled(height, kind[3]));
            }
        }
    }

    private static void just32() {
        for (int[] kind : KINDS) {
            heightGrows(kind, 32 - Math.max(0, kind[2]));
        }
    }

    private static void heightGrows(int[] kind, int height) {
        PipeKernel k = behind(kind[0], filled(height, kind[3]));
        int due = (kind[0] & 255) == Code.EXIT ? PipeKernel.ENDED
            : (kind[0] & 255) == Code.SLEEP ? PipeKernel.SLEEPS : PipeKernel.READY;
        Check.same(named(kind[0]) + " on " + height + ": state", k.state(1), due);
        Check.same(named(kind[0]) + " on " + height + ": words", k.about(1, 1), height + kind[2]);
    }

    /** "What it popped counts no more": both are popped before one or two come. */
    private static void poppedCountsNoMore() {
        int[] stack = filled(32, 3);
        int[] due = stack.clone();
        due[30] = 3;
        due[31] = stack[30];
        stackIs("4 on 32", Code.SWAP, stack, due);
        due = stack.clone();
        due[31] = 0;
        stackIs("17 on 32", Code.NOT, stack, due);
        due = java.util.Arrays.copyOf(stack, 31);
        due[30] = stack[30] + 3;
        stackIs("5 on 32", Code.ADD, stack, due);
        due = java.util.Arrays.copyOf(filled(31, 3), 32);
        due[30] = 0;
        due[31] = -1;
        stackIs("34 on 31", Code.READ, filled(31, 3), due);
        faultIs("3 on 32", 2, Code.TWICE, stack);
    }

    /** "Nothing else of the instruction is done." */
    private static void nothingElseIsDone() {
        PipeKernel fork = faultIs("FORK on 32", 2, Code.FORK, filled(32, 1));
        Check.same("no child", fork.state(2), 0);
        Check.queue("no child", fork);
        PipeKernel pipe = faultIs("PIPE on 31", 2, Code.PIPE, filled(31, 1));
        Check.same("no pipe", pipe.pipe(0, 1) + pipe.pipe(0, 2), 0);
        PipeKernel write = faultIs("WRITE on 1", 1, Code.WRITE, 1);
        Check.same("no word", write.outs(), 0);
        PipeKernel store = faultIs("21 on 1", 1, Code.STORE_AT, 100);
        Check.same("nothing is stored", store.memory(1, 100), 0);
        PipeKernel exit = faultIs("EXIT on 0", 1, Code.EXIT);
        Check.same("the CODE is the FAULT's", exit.about(1, 3), -1001);
        PipeKernel sleep = faultIs("SLEEP on 0", 1, Code.SLEEP);
        Check.same("it does not sleep", sleep.about(1, 4), 0);
        PipeKernel kill = faultIs("KILL on 0", 1, Code.KILL);
        Check.same("process 0 is there", kill.state(0), PipeKernel.SLEEPS);
    }

    /** FAULT 2 of READ: the word stays where it is, and who waits to write goes on waiting. */
    private static void readWithoutRoomTakesNothing() {
        PipeKernel in = before(Code.READ, filled(32, 0));
        in.feed(5);
        in.run(1);
        Check.same("FAULT 2", in.about(1, 3), -1002);
        Check.same("the word is there", in.feed(6), 2);
        // Process 1 waits to write into the full pipe 0, which process 2 tries to read on 32 words.
        PipeKernel k = Code.booted(100, 1, Code.pieces(
            0, Code.code(Code.PIPE, Code.FORK, Code.jumpIfZero(20), Code.FORK, Code.jumpIfZero(30), Code.push(90), Code.SLEEP),
            20, Code.code(Code.push(7), Code.push(3), Code.WRITE, Code.push(8), Code.push(3), Code.WRITE),
            30, Code.code(Code.NUMBER, Code.NUMBER, Code.NUMBER, Code.NUMBER, Code.fetch(60), Code.push(1), Code.ADD,
                Code.TWICE, Code.store(60), Code.push(6), Code.SAME, Code.jumpIfZero(30),
                Code.NUMBER, Code.NUMBER, Code.NUMBER, Code.NUMBER, Code.NUMBER, Code.push(2), Code.READ)));
        Code.runTo(k, 2, 48);
        Check.same("on 32 words", k.about(2, 1), 32);
        Check.same("process 1 waits", k.state(1), PipeKernel.WRITES);
        k.run(1);
        Check.same("FAULT 2", k.about(2, 3), -1002);
        Check.same("the word is there", k.pipe(0, 0), 1);
        Check.same("process 1 waits still", k.state(1), PipeKernel.WRITES);
        Check.queue("none is READY", k);
    }

    /** FAULT 2 of WAIT: the child that ENDED is not gone by it. */
    private static void waitWithoutRoomTakesNoChild() {
        for (int height = 31; height <= 32; height++) {
            PipeKernel k = Code.loaded(100, 1, Code.FORK, Code.jumpIfZero(4), Code.push(90), Code.SLEEP,
                Code.FORK, Code.jumpIfZero(60), Code.YIELD);
            for (int i = 0; i < height; i++) {
                k.load(7 + i, Code.push(i));
            }
            k.load(7 + height, Code.WAIT);
            k.load(60, Code.push(42));
            k.load(61, Code.EXIT);
            k.boot();
            Code.runTo(k, 1, 7 + height);
            Check.same("process 2 ENDED", k.state(2), PipeKernel.ENDED);
            k.run(1);
            Check.same("FAULT 2 on " + height, k.about(1, 3), -1002);
            Check.same("its words", k.about(1, 1), height);
            Check.same("process 2 is there", k.state(2), PipeKernel.ENDED);
            Check.same("with its CODE", k.about(2, 3), 42);
            Check.same("and process 0 has got it", k.about(2, 2), 0);
        }
    }

    /** "The first one of 4, 5, 1, 6, 3, 2." */
    private static void firstFaultOfSeveral() {
        PipeKernel k = behind(Code.jump(128));
        k.run(1);
        Check.same("4 on an empty stack", k.about(1, 3), -1004);
        k = behind(Code.jump(-1), filled(32, 0));
        k.run(1);
        Check.same("4 on a full stack", k.about(1, 3), -1004);
        faultIs("5 before 1", 5, 26);
        faultIs("5 before 2", 5, 42, filled(32, 0));
        faultIs("5 before 3", 5, Code.of(29, 128), 128);
        faultIs("1 before 6 of 8", 1, Code.DIV, 0);
        faultIs("1 before 6 of 9", 1, Code.REM, 0);
        faultIs("1 before 3 of 19", 1, Code.store(128));
        faultIs("1 before 3 of 20", 1, Code.FETCH_AT);
        faultIs("1 before 3 of 21", 1, Code.STORE_AT, 128);
        faultIs("3 before 2 of 18", 3, Code.fetch(-1), filled(32, 0));
        faultIs("6 on a full stack", 6, Code.DIV, filled(32, 0));
        faultIs("3 on a full stack", 3, Code.FETCH_AT, filled(32, 128));
    }

    /** "Where it begins to wait there is no FAULT 2." */
    private static void noFaultWhereItBeginsToWait() {
        PipeKernel read = behind(Code.READ, filled(32, 0));
        Check.same("READ waits", read.state(1), PipeKernel.READS);
        Check.stack("nothing is popped", read, 1, filled(32, 0));
        read.shut();
        read.run(1);
        Check.same("0 and 0 have no room either", read.about(1, 3), -1002);
        for (int height = 31; height <= 32; height++) {
            PipeKernel wait = Code.loaded(100, 1, Code.push(90), Code.FORK, Code.jumpIfZero(60));
            for (int i = 1; i < height; i++) {
                wait.load(2 + i, Code.push(i));
            }
            wait.load(2 + height, Code.WAIT);
            wait.load(60, Code.SLEEP);
            wait.boot();
            Code.runTo(wait, 0, 2 + height);
            wait.run(1);
            Check.same("WAIT waits on " + height, wait.state(0), PipeKernel.WAITS);
            Check.same("nothing is pushed", wait.about(0, 1), height);
        }
    }

    /** "Faults that end a process, and it alone." */
    private static void faultEndsItAlone() {
        for (int word : new int[] {Code.DROP, Code.fetch(128), 200}) {
            PipeKernel k = behind(word);
            Check.same("it ENDED", k.state(1), PipeKernel.ENDED);
            Check.same("its parent sleeps on", k.state(0), PipeKernel.SLEEPS);
            Check.same("its parent's time", k.about(0, 4), 100004);
            Check.same("its descriptors are closed", k.about(1, 5), 0);
            Check.same("its parent's are not", k.about(0, 5), 3);
            Check.same("the steps go on", k.run(40), 40);
        }
    }
}

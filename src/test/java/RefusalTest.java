import java.util.List;

/**
 * "A call that throws changes nothing; of several exceptions the one named first is thrown." Each call that can be
 * refused is made with all wrong inputs, in every state of a busy run; what can't be seen at once (the turn's count, the
 * order of waiting, the words for IN) is seen by a twin that goes on beside it without the refused calls.
 */
public final class RefusalTest {
    private static final int LEAST = Integer.MIN_VALUE;
    private static final int MOST = Integer.MAX_VALUE;
    private static final int[] NO_PROCESS = {-1, 16, 17, LEAST, MOST};
    private static final int[] NO_PLACE = {-1, 128, 129, LEAST, MOST};
    private static final int[] NO_STEPS = {-1, 41, 42, LEAST, MOST};
    private static final int[] NO_DESCRIPTOR = {-1, 8, 9, LEAST, MOST};
    private static final int[] NO_WHAT = {-1, 6, 7, LEAST, MOST};
    private static final int[] NO_PIPE = {-1, 8, 9, LEAST, MOST};
    private static final int[] NO_PIPE_WHAT = {-1, 5, 6, LEAST, MOST};

    public static void main(String[] args) {
        beforeBoot();
        loadIsNotHalfDone();
        bootIsNotDoneAgain();
        runDoesNoStep();
        feedIsNotTaken();
        firstExceptionOfLoad();
        firstExceptionOfAbout();
        firstExceptionOfPipe();
        twins();
        whenAllAreGone();
        Check.done();
    }

    /** All calls that are refused in any state. */
    private static void refused(PipeKernel k, boolean booted) {
        for (int place : NO_PLACE) {
            Check.noIndex("load(" + place + ")", () -> k.load(place, 5));
            Check.noIndex("memory(0, " + place + ")", () -> k.memory(0, place));
        }
        if (booted) {
            Check.noState("load behind boot", () -> k.load(0, 77));
            Check.noState("load behind boot", () -> k.load(127, 77));
            Check.noState("boot twice", k::boot);
        }
        for (int n : NO_STEPS) {
            Check.noArgument("run(" + n + ")", () -> k.run(n));
        }
        for (int d : NO_DESCRIPTOR) {
            Check.noIndex("descriptor(0, " + d + ")", () -> k.descriptor(0, d));
        }
        for (int p : NO_PROCESS) {
            noSuchProcess(k, p);
        }
        for (int p = 0; p < 16; p++) {
            ofAProcess(k, p);
        }
        console(k);
        pipes(k);
    }

    private static void noSuchProcess(PipeKernel k, int p) {
        Check.noIndex("state(" + p + ")", () -> k.state(p));
        Check.noIndex("about(" + p + ", 0)", () -> k.about(p, 0));
        Check.noIndex("about(" + p + ", 6)", () -> k.about(p, 6));
        Check.noIndex("stack(" + p + ", 0)", () -> k.stack(p, 0));
        Check.noIndex("memory(" + p + ", 0)", () -> k.memory(p, 0));
        Check.noIndex("memory(" + p + ", 128)", () -> k.memory(p, 128));
        Check.noIndex("descriptor(" + p + ", 0)", () -> k.descriptor(p, 0));
    }

    private static void ofAProcess(PipeKernel k, int p) {
        for (int what : NO_WHAT) {
            Check.noArgument("about(" + p + ", " + what + ")", () -> k.about(p, what));
        }
        Check.noIndex("stack(" + p + ", -1)", () -> k.stack(p, -1));
        Check.noIndex("stack(" + p + ", least)", () -> k.stack(p, LEAST));
        Check.noIndex("stack(" + p + ", 32)", () -> k.stack(p, 32));
        Check.noIndex("stack(" + p + ", most)", () -> k.stack(p, MOST));
        if (k.state(p) != 0) {
            int words = k.about(p, 1);
            Check.noIndex("stack(" + p + ", " + words + ")", () -> k.stack(p, words));
            return;
        }
        for (int what = 0; what <= 5; what++) {
            int one = what;
            Check.noState("about(" + p + ", " + what + ") of none", () -> k.about(p, one));
        }
        Check.noIndex("stack(" + p + ", 0) of none", () -> k.stack(p, 0));
        Check.noIndex("memory(" + p + ", 0) of none", () -> k.memory(p, 0));
        Check.noIndex("memory(" + p + ", 127) of none", () -> k.memory(p, 127));
        Check.noIndex("descriptor(" + p + ", 0) of none", () -> k.descriptor(p, 0));
        Check.noIndex("descriptor(" + p + ", 7) of none", () -> k.descriptor(p, 7));
    }

    private static void console(PipeKernel k) {
        Check.noIndex("queue(-1)", () -> k.queue(-1));
        Check.noIndex("queue(least)", () -> k.queue(LEAST));
        int words = Math.min(500, k.outs());
        Check.noIndex("out(-1)", () -> k.out(-1));
        Check.noIndex("out(least)", () -> k.out(LEAST));
        Check.noIndex("out(" + words + ")", () -> k.out(words));
        Check.noIndex("out(500)", () -> k.out(500));
        Check.noIndex("out(most)", () -> k.out(MOST));
    }

    private static void pipes(PipeKernel k) {
        for (int p : NO_PIPE) {
            Check.noIndex("pipe(" + p + ", 0)", () -> k.pipe(p, 0));
            Check.noIndex("pipe(" + p + ", 5)", () -> k.pipe(p, 5));
        }
        for (int p = 0; p < 8; p++) {
            for (int what : NO_PIPE_WHAT) {
                int one = p;
                Check.noArgument("pipe(" + p + ", " + what + ")", () -> k.pipe(one, what));
            }
        }
    }

    private static void beforeBoot() {
        PipeKernel k = new PipeKernel(1, 1);
        List<String> seen = Seen.of(k);
        refused(k, false);
        Seen.same("before boot", k, seen);
        k.boot();
        for (int place = 0; place < 128; place++) {
            Check.same("nothing was loaded", k.memory(0, place), 0);
        }
    }

    private static void loadIsNotHalfDone() {
        PipeKernel k = Code.loaded(1, 1, Code.NUMBER, Code.jump(1));
        for (int place : NO_PLACE) {
            Check.noIndex("load(" + place + ")", () -> k.load(place, 5));
        }
        k.boot();
        Check.noState("load(0)", () -> k.load(0, Code.push(9)));
        Check.same("memory(0, 0)", k.memory(0, 0), Code.NUMBER);
        k.run(1);
        Check.stack("what was loaded first is done", k, 0, 0);
    }

    private static void bootIsNotDoneAgain() {
        PipeKernel k = Code.booted(2, 1, Code.push(7), Code.push(1), Code.CLOSE, Code.jump(3));
        k.run(3);
        List<String> seen = Seen.of(k);
        Check.noState("boot()", k::boot);
        Seen.same("boot()", k, seen);
        Check.same("OUT is closed still", k.descriptor(0, 1), 0);
        Check.queue("once on the queue", k, 0);
    }

    private static void runDoesNoStep() {
        PipeKernel k = Code.booted(2, 1, Code.NOP, Code.jump(1));
        for (int n : NO_STEPS) {
            Check.noArgument("run(" + n + ")", () -> k.run(n));
        }
        Check.same("TIME", k.time(), 0);
        Check.same("PLACE", k.about(0, 0), 0);
    }

    /** Neither the word nor the waking is done; the words that are there stay as they are. */
    private static void feedIsNotTaken() {
        PipeKernel full = Code.booted(100, 1, Code.push(0), Code.READ, Code.DROP, Code.push(1), Code.WRITE, Code.DROP,
            Code.jump(0));
        for (int i = 0; i < 100; i++) {
            full.feed(i);
        }
        for (int i = 0; i < 3; i++) {
            Check.noState("feed of the 101st", () -> full.feed(-1));
        }
        Code.steps(full, 800);
        Check.same("100 words", full.outs(), 100);
        for (int i = 0; i < 100; i++) {
            Check.same("word " + i, full.out(i), i);
        }
        PipeKernel shut = Code.booted(100, 1, Code.push(0), Code.READ, Code.push(0), Code.READ);
        shut.feed(4);
        shut.shut();
        Check.noState("feed when it is shut", () -> shut.feed(5));
        shut.run(4);
        Check.stack("one word only", shut, 0, 4, 1, 0, 0);
        Check.noState("shut, and empty", () -> shut.feed(6));
    }

    /** load: IndexOutOfBoundsException before IllegalStateException. */
    private static void firstExceptionOfLoad() {
        PipeKernel k = Code.booted(1, 1, Code.jump(0));
        for (int place : NO_PLACE) {
            Check.noIndex("load(" + place + ") behind boot", () -> k.load(place, 1));
        }
        Check.noState("load(0) behind boot", () -> k.load(0, 1));
        Check.noState("load(127) behind boot", () -> k.load(127, 1));
    }

    /** about: IndexOutOfBoundsException, then IllegalArgumentException, then IllegalStateException. */
    private static void firstExceptionOfAbout() {
        PipeKernel k = Code.booted(1, 1, Code.jump(0));
        for (int what : NO_WHAT) {
            for (int p : NO_PROCESS) {
                Check.noIndex("about(" + p + ", " + what + ")", () -> k.about(p, what));
            }
            Check.noArgument("about(1, " + what + ") of none", () -> k.about(1, what));
            Check.noArgument("about(15, " + what + ") of none", () -> k.about(15, what));
        }
        Check.noState("about(1, 0) of none", () -> k.about(1, 0));
        Check.noState("about(15, 5) of none", () -> k.about(15, 5));
    }

    /** pipe: IndexOutOfBoundsException before IllegalArgumentException. */
    private static void firstExceptionOfPipe() {
        PipeKernel k = new PipeKernel(1, 1);
        for (int what : NO_PIPE_WHAT) {
            for (int p : NO_PIPE) {
                Check.noIndex("pipe(" + p + ", " + what + ")", () -> k.pipe(p, what));
            }
        }
    }

    /** Process 0 and its children read IN, write to pipes, sleep, wait, fork and fail. */
    private static PipeKernel busy() {
        return Code.booted(3, 2, Code.PIPE, Code.store(100), Code.store(101),
            Code.FORK, Code.jumpIfZero(20), Code.FORK, Code.jumpIfZero(30), Code.push(7), Code.fetch(100), Code.WRITE,
            Code.push(1), Code.WRITE, Code.DROP, Code.push(2), Code.SLEEP, Code.DROP, Code.WAIT, Code.DROP, Code.DROP,
            Code.jump(3),
            Code.fetch(101), Code.READ, Code.DROP, Code.push(1), Code.WRITE, Code.PIPE, Code.FORK, Code.push(0), Code.READ,
            Code.jump(33),
            Code.push(9), Code.fetch(100), Code.WRITE, Code.push(5), Code.push(0), Code.DIV);
    }

    private static void twins() {
        PipeKernel k = busy();
        PipeKernel twin = busy();
        boolean[] states = new boolean[7];
        for (int i = 0; i < 120; i++) {
            List<String> seen = Seen.of(k);
            for (int p = 0; p < 16; p++) {
                states[k.state(p)] = true;
            }
            refused(k, true);
            Seen.same("behind refused calls, TIME " + k.time(), k, seen);
            if (i % 7 == 3 && i >= 50 && i < 90) {
                Check.same("feed", k.feed(i), twin.feed(i));
            }
            if (i == 90) {
                Check.isTrue("shut", k.shut() && twin.shut());
            }
            if (i > 90) {
                Check.noState("feed when it is shut", () -> k.feed(1));
                Check.isTrue("shut again", !k.shut());
            }
            int n = i % 3 == 0 ? 1 + i % 40 : 1;
            Check.same("run", k.run(n), twin.run(n));
            Seen.same("the twin without refused calls, TIME " + k.time(), k, Seen.of(twin));
        }
        for (int state = 0; state <= 6; state++) {
            Check.isTrue("a process was in state " + state, states[state]);
        }
    }

    private static void whenAllAreGone() {
        PipeKernel k = Code.booted(1, 1, Code.push(0), Code.EXIT);
        k.run(40);
        List<String> seen = Seen.of(k);
        refused(k, true);
        Seen.same("when all are gone", k, seen);
        Check.same("no step", k.run(40), 0);
    }
}

/** The kinds of instructions by name, and kernels that begin with a program. */
final class Code {
    static final int NOP = 0, DROP = 2, TWICE = 3, SWAP = 4, ADD = 5, SUB = 6, MUL = 7, DIV = 8, REM = 9;
    static final int AND = 10, OR = 11, XOR = 12, SHL = 13, SHR = 14, LESS = 15, SAME = 16, NOT = 17;
    static final int FETCH_AT = 20, STORE_AT = 21, RETURN = 25;
    static final int EXIT = 30, NUMBER = 31, YIELD = 32, WRITE = 33, READ = 34, FORK = 35, WAIT = 36;
    static final int KILL = 37, PIPE = 38, CLOSE = 39, DUP = 40, SLEEP = 41;

    private Code() {
    }

    static int push(int a) {
        return of(1, a);
    }

    static int fetch(int a) {
        return of(18, a);
    }

    static int store(int a) {
        return of(19, a);
    }

    static int jump(int a) {
        return of(22, a);
    }

    static int jumpIfZero(int a) {
        return of(23, a);
    }

    static int call(int a) {
        return of(24, a);
    }

    static int of(int kind, int a) {
        return 256 * a + kind;
    }

    static PipeKernel booted(int quantum, int capacity, int... program) {
        PipeKernel k = loaded(quantum, capacity, program);
        k.boot();
        return k;
    }

    static PipeKernel loaded(int quantum, int capacity, int... program) {
        PipeKernel k = new PipeKernel(quantum, capacity);
        for (int i = 0; i < program.length; i++) {
            k.load(i, program[i]);
        }
        return k;
    }

    /** Steps until none can be done, or this many. */
    static int steps(PipeKernel k, int most) {
        int done = 0;
        for (int left = most; left > 0; left -= 40) {
            done += k.run(Math.min(left, 40));
        }
        return done;
    }

    /** Steps till this holds: the process is the first one, and at that place. */
    static void runTo(PipeKernel k, int process, int place) {
        for (int i = 0; i < 400 && !(k.queue(0) == process && k.about(process, 0) == place); i++) {
            k.run(1);
        }
        Check.same("process " + process + " comes to " + place, k.state(process) == 0 ? -99 : k.about(process, 0), place);
    }

    /** A program of 128 words or less: each piece begins at the place that stands before it. */
    static int[] pieces(Object... placesAndPieces) {
        int[] program = new int[128];
        for (int i = 0; i < placesAndPieces.length; i += 2) {
            int[] piece = (int[]) placesAndPieces[i + 1];
            System.arraycopy(piece, 0, program, (Integer) placesAndPieces[i], piece.length);
        }
        return program;
    }

    static int[] code(int... words) {
        return words;
    }
}

/** Counts the answers that are not as due; a test ends with done(). */
final class Check {
    private static int checked = 0;
    private static int wrong = 0;

    private Check() {
    }

    interface Call {
        void make();
    }

    static void same(String what, long got, long due) {
        checked++;
        if (got != due) {
            wrong++;
            System.out.println(what + " answered " + got + ", due is " + due);
        }
    }

    static void isTrue(String what, boolean got) {
        same(what, got ? 1 : 0, 1);
    }

    static void fails(String what, Class<? extends RuntimeException> due, Call call) {
        checked++;
        Class<?> got = null;
        try {
            call.make();
        } catch (RuntimeException e) {
            got = e.getClass();
        }
        if (got != due) {
            wrong++;
            System.out.println(what + " threw " + got + ", due is " + due);
        }
    }

    static void noIndex(String what, Call call) {
        fails(what, IndexOutOfBoundsException.class, call);
    }

    static void noArgument(String what, Call call) {
        fails(what, IllegalArgumentException.class, call);
    }

    static void noState(String what, Call call) {
        fails(what, IllegalStateException.class, call);
    }

    /** The words on a process's stack, from the bottom up. */
    static void stack(String what, PipeKernel k, int process, int... due) {
        same(what + ": words on the stack of " + process, k.about(process, 1), due.length);
        for (int i = 0; i < due.length && due.length == k.about(process, 1); i++) {
            same(what + ": word " + i + " of the stack of " + process, k.stack(process, due.length - 1 - i), due[i]);
        }
    }

    static void queue(String what, PipeKernel k, int... due) {
        for (int i = 0; i < due.length; i++) {
            same(what + ": queue(" + i + ")", k.queue(i), due[i]);
        }
        same(what + ": queue(" + due.length + ")", k.queue(due.length), PipeKernel.NONE);
    }

    static void outputs(String what, PipeKernel k, int... due) {
        same(what + ": outs()", k.outs(), due.length);
        for (int i = 0; i < due.length && i < k.outs(); i++) {
            same(what + ": out(" + i + ")", k.out(i), due[i]);
        }
    }

    static void done() {
        System.out.println(checked + " answers looked at, " + wrong + " not as due");
        if (wrong != 0 || checked == 0) {
            System.exit(1);
        }
    }
}

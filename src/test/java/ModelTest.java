import java.util.ArrayList;
import java.util.List;
import java.util.TreeMap;

/** Programs by chance (the same ones each time), run by the class and by Model: all that can be asked is the same. */
public final class ModelTest {
    private static final int RUNS = 4000;
    private static final int CALLS = 80;
    private static final int LONG_RUNS = 60;
    private static final int LONG_CALLS = 400;
    /** The flavour of programs that mostly write to the console. */
    private static final int TALKS = 6;

    private final TreeMap<String, Integer> seen = new TreeMap<>();
    private long chance = 20261115L;

    public static void main(String[] args) {
        ModelTest test = new ModelTest();
        boolean same = true;
        for (int run = 0; run < RUNS && same; run++) {
            same = test.oneRun(run, CALLS, test.below(6));
        }
        for (int run = 0; run < LONG_RUNS && same; run++) {
            same = test.oneRun(RUNS + run, LONG_CALLS, run % 2 == 0 ? TALKS : test.below(6));
        }
        Check.isTrue("all runs are the same", same);
        String[] wanted = {"FAULT 1", "FAULT 2", "FAULT 3", "FAULT 4", "FAULT 5", "FAULT 6", "a child goes to 0",
            "a child is taken", "a child without a parent", "all of several woke", "an idle step", "its own parent",
            "no descriptors are free", "no number is free", "no pipe is free", "no reading end", "no word will come",
            "process 0 anew", "process 0 has got one that ENDED", "state 2", "state 3", "state 4", "state 5",
            "KILL in state 1", "KILL in state 2", "KILL in state 3", "KILL in state 4", "KILL in state 5", "a full IN",
            "a shut IN", "more than 500 words went out", "a refused call"};
        for (String what : wanted) {
            Check.isTrue("the runs have shown: " + what, test.seen.containsKey(what));
        }
        for (int kind = 0; kind <= 41; kind++) {
            Check.isTrue("the runs have shown: kind " + kind, test.seen.containsKey("kind " + kind));
        }
        Check.done();
    }

    private int below(int bound) {
        chance = chance * 6364136223846793005L + 1442695040888963407L;
        return (int) ((chance >>> 33) % bound);
    }

    private boolean oneRun(int run, int calls, int flavour) {
        int quantum = below(4) == 0 ? below(130) - 10 : 1 + below(6);
        int capacity = below(4) == 0 ? below(24) - 4 : 1 + below(3);
        int[] memory = program(flavour);
        PipeKernel k = new PipeKernel(quantum, capacity);
        Model m = new Model(quantum, capacity);
        for (int i = 0; i < 128; i++) {
            k.load(i, memory[i]);
        }
        k.boot();
        m.boot(memory);
        String told = "";
        for (int call = 0; call < calls && told.isEmpty(); call++) {
            told = oneCall(k, m);
            if (told.isEmpty()) {
                told = difference(k, m);
            }
        }
        m.seen.forEach((what, times) -> seen.merge(what, times, Integer::sum));
        if (!told.isEmpty()) {
            System.out.println("run " + run + ", TIME " + m.time + ": " + told);
        }
        return told.isEmpty();
    }

    private String oneCall(PipeKernel k, Model m) {
        int choice = below(20);
        if (choice < 2) {
            String told = "";
            for (int times = below(20) == 0 ? 60 : 1; times > 0 && told.isEmpty(); times--) {
                told = feed(k, m);
            }
            return told;
        }
        if (choice == 3) {
            return refused(k) ? "" : "a call was not refused";
        }
        if (choice == 2 && below(6) == 0) {
            return k.shut() == m.shut() ? "" : "shut is not as due";
        }
        int n = below(3) == 0 ? below(41) : 1 + below(3);
        int got = k.run(n);
        int due = m.run(n);
        return got == due ? "" : "run(" + n + ") answered " + got + ", due is " + due;
    }

    private String feed(PipeKernel k, Model m) {
        int word = below(200) - 100;
        int got = -1;
        try {
            got = k.feed(word);
        } catch (IllegalStateException e) {
            got = -1;
        }
        int due = m.feed(word) ? m.in.size() : -1;
        return got == due ? "" : "feed answered " + got + ", due is " + due;
    }

    /** A call that must throw, and change nothing: what is seen behind it is compared as behind any other call. */
    private boolean refused(PipeKernel k) {
        seen.merge("a refused call", 1, Integer::sum);
        int beyond = below(2) == 0 ? -1 - below(300) : 500 + below(300);
        try {
            switch (below(10)) {
                case 0 -> k.load(below(2) == 0 ? beyond : below(128), 5);
                case 1 -> k.boot();
                case 2 -> k.run(beyond);
                case 3 -> k.state(beyond);
                case 4 -> k.about(below(16), beyond);
                case 5 -> k.stack(below(16), beyond);
                case 6 -> k.memory(beyond, below(128));
                case 7 -> k.descriptor(below(16), beyond);
                case 8 -> k.pipe(below(8), beyond);
                default -> k.out(beyond);
            }
            return false;
        } catch (IndexOutOfBoundsException | IllegalArgumentException | IllegalStateException e) {
            return true;
        }
    }

    private static String difference(PipeKernel k, Model m) {
        StringBuilder told = new StringBuilder();
        compare(told, "time", k.time(), m.time);
        for (int i = 0; i < 18; i++) {
            compare(told, "queue " + i, k.queue(i), i < m.queue.size() ? m.queue.get(i).number : -1);
        }
        for (int p = 0; p < 16; p++) {
            Model.P due = m.there.get(p);
            compare(told, "state " + p, k.state(p), due == null ? 0 : due.state);
            if (due != null && told.length() == 0) {
                process(told, k, due);
            }
        }
        for (int p = 0; p < 8; p++) {
            Model.Pipe due = m.pipes[p];
            compare(told, "words of pipe " + p, k.pipe(p, 0), due == null ? 0 : due.words.size());
            compare(told, "reading ends of pipe " + p, k.pipe(p, 1), due == null ? 0 : m.ends(due, true));
            compare(told, "writing ends of pipe " + p, k.pipe(p, 2), due == null ? 0 : m.ends(due, false));
            compare(told, "readers of pipe " + p, k.pipe(p, 3), due == null ? 0 : due.readers.size());
            compare(told, "writers of pipe " + p, k.pipe(p, 4), due == null ? 0 : due.writers.size());
        }
        compare(told, "outs", k.outs(), m.printed.size());
        int kept = Math.min(500, m.printed.size());
        for (int i = 0; i < kept && told.length() == 0; i++) {
            compare(told, "out " + i, k.out(i), m.printed.get(m.printed.size() - kept + i));
        }
        return told.toString();
    }

    private static void process(StringBuilder told, PipeKernel k, Model.P due) {
        int p = due.number;
        compare(told, "PLACE of " + p, k.about(p, 0), due.place);
        compare(told, "words of " + p, k.about(p, 1), due.stack.size());
        compare(told, "parent of " + p, k.about(p, 2), due.parent == null ? -1 : due.parent.number);
        compare(told, "CODE of " + p, k.about(p, 3), due.state == 6 ? due.code : 0);
        compare(told, "time of " + p, k.about(p, 4), due.until);
        for (int d = 0; d < 8; d++) {
            int value = due.ends[d] == null ? 0 : due.ends[d].value;
            compare(told, "descriptor " + d + " of " + p, k.descriptor(p, d), value);
            compare(told, "open " + d + " of " + p, k.about(p, 5) >> d & 1, value == 0 ? 0 : 1);
        }
        for (int i = 0; i < due.stack.size() && told.length() == 0; i++) {
            compare(told, "stack of " + p, k.stack(p, i), due.stack.get(due.stack.size() - 1 - i));
        }
        for (int i = 0; i < 128; i++) {
            compare(told, "memory " + i + " of " + p, k.memory(p, i), due.memory[i]);
        }
    }

    private static void compare(StringBuilder told, String what, int got, int due) {
        if (got != due && told.length() == 0) {
            told.append(what).append(" is ").append(got).append(", due is ").append(due);
        }
    }

    /** Pieces that mostly make sense, one behind the other, so that processes live for a while. */
    private int[] program(int flavour) {
        List<Integer> code = new ArrayList<>();
        int length = 20 + below(100);
        while (code.size() < length) {
            piece(code, flavour);
        }
        int[] memory = new int[128];
        for (int i = 0; i < 128; i++) {
            memory[i] = i < code.size() ? code.get(i) : Code.jump(below(8) == 0 ? below(128) : 0);
        }
        if (below(10) == 0) {
            memory[below(128)] = below(256) + 256 * (below(300) - 150);
        }
        return memory;
    }

    private void piece(List<Integer> code, int flavour) {
        if (flavour == TALKS && below(8) != 0) {
            add(code, Code.push(below(1000)), Code.push(1), Code.WRITE, Code.DROP);
            return;
        }
        int choice = below(flavour == 0 ? 24 : 20);
        switch (choice) {
            case 0, 1 -> add(code, Code.FORK, Code.jumpIfZero(below(128)));
            case 2 -> add(code, Code.FORK, Code.DROP);
            case 3 -> add(code, Code.PIPE, Code.DROP, Code.DROP);
            case 4 -> add(code, Code.PIPE, Code.store(120 + below(4)), Code.store(124 + below(4)));
            case 5, 6, 7 -> add(code, Code.push(below(9)), Code.READ, Code.DROP, below(3) == 0 ? Code.NOP : Code.DROP);
            case 8, 9, 10 -> add(code, Code.push(below(100)), Code.push(below(9)), Code.WRITE, Code.DROP);
            case 11 -> add(code, Code.push(below(9) - (below(9) == 0 ? 1 : 0)), Code.CLOSE, Code.DROP);
            case 12 -> add(code, Code.push(below(9)), Code.DUP, Code.DROP);
            case 13 -> add(code, Code.push(below(flavour == 1 ? 60 : 12) - 2), Code.SLEEP, Code.DROP);
            case 14 -> add(code, Code.WAIT, Code.DROP, Code.DROP);
            case 15 -> end(code, flavour);
            case 16 -> add(code, below(3) == 0 ? Code.YIELD : Code.jump(below(128)));
            case 17 -> compute(code);
            case 18 -> add(code, Code.fetch(below(129)), Code.push(below(200)), Code.ADD, Code.store(110 + below(19)));
            case 19 -> add(code, Code.NUMBER, Code.push(below(4)), Code.SAME, Code.jumpIfZero(below(128)));
            default -> add(code, below(42) + 256 * (below(140) - 6));
        }
    }

    private void end(List<Integer> code, int flavour) {
        if (flavour == 1 || below(3) == 0) {
            add(code, Code.push(below(18) - 1), Code.KILL, Code.DROP);
        } else if (below(3) == 0) {
            add(code, Code.push(below(50)), Code.EXIT);
        } else {
            add(code, Code.NUMBER, Code.NOT, Code.jumpIfZero(code.size() + 5), Code.push(below(50)), Code.EXIT);
        }
    }

    private void compute(List<Integer> code) {
        int x = below(2) == 0 ? below(1 << 24) - (1 << 23) : below(20) - 10;
        int y = below(2) == 0 ? below(1 << 24) - (1 << 23) : below(20) - 10;
        add(code, Code.push(x), Code.push(y), 5 + below(12), below(4) == 0 ? Code.TWICE : Code.DROP);
        if (below(4) == 0) {
            add(code, Code.call(below(128)));
        } else if (below(4) == 0) {
            add(code, Code.push(below(130)), below(2) == 0 ? Code.FETCH_AT : Code.RETURN);
        } else if (below(4) == 0) {
            add(code, Code.push(x), Code.push(below(130)), Code.STORE_AT);
        }
    }

    private static void add(List<Integer> code, int... words) {
        for (int word : words) {
            code.add(word);
        }
    }
}

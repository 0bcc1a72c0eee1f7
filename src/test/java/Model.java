import java.util.ArrayDeque;
import java.util.ArrayList;
import java.util.Deque;
import java.util.List;
import java.util.TreeMap;

/**
 * The document once more, written as a reader would: lists that grow, objects for ends of pipes, and counts that
 * are made anew by looking at all processes. An instruction works on a copy of the stack and is taken over when
 * it had no FAULT.
 */
final class Model {
    static final class Fault extends Exception {
        private static final long serialVersionUID = 1L;
        final int number;

        Fault(int number) {
            this.number = number;
        }
    }

    static final class Pipe {
        final int number;
        final Deque<Integer> words = new ArrayDeque<>();
        final List<P> readers = new ArrayList<>();
        final List<P> writers = new ArrayList<>();

        Pipe(int number) {
            this.number = number;
        }
    }

    static final class End {
        final int value;
        final Pipe pipe;

        End(int value, Pipe pipe) {
            this.value = value;
            this.pipe = pipe;
        }

        boolean reads() {
            return pipe != null && value < 20;
        }

        boolean writes() {
            return pipe != null && value >= 20;
        }
    }

    static final class P {
        int number;
        int[] memory = new int[128];
        List<Integer> stack = new ArrayList<>();
        End[] ends = new End[8];
        int place;
        P parent;
        int state = 1;
        int code;
        int until;
    }

    final int quantum;
    final int capacity;
    final TreeMap<Integer, P> there = new TreeMap<>();
    final Pipe[] pipes = new Pipe[8];
    final List<P> queue = new ArrayList<>();
    final Deque<Integer> in = new ArrayDeque<>();
    final List<P> inReaders = new ArrayList<>();
    final List<Integer> printed = new ArrayList<>();
    boolean shut;
    int time;
    P first;
    int done;
    /** How often things happened that a run may miss, for the test to look at. */
    final TreeMap<String, Integer> seen = new TreeMap<>();

    Model(int quantum, int capacity) {
        this.quantum = Math.min(100, Math.max(1, quantum));
        this.capacity = Math.min(16, Math.max(1, capacity));
    }

    void boot(int[] memory) {
        P p = new P();
        p.memory = memory.clone();
        p.ends[0] = new End(1, null);
        p.ends[1] = new End(2, null);
        there.put(0, p);
        ready(p);
    }

    int run(int n) {
        int steps = 0;
        while (steps < n && there.values().stream().anyMatch(p -> p.state == 1 || p.state == 5)) {
            step();
            steps++;
        }
        return steps;
    }

    boolean feed(int word) {
        if (shut || in.size() == 100) {
            saw(shut ? "a shut IN" : "a full IN");
            return false;
        }
        in.add(word);
        wakeOne(inReaders);
        return true;
    }

    boolean shut() {
        boolean before = shut;
        shut = true;
        wakeAll(inReaders);
        return !before;
    }

    int ends(Pipe pipe, boolean reading) {
        int count = 0;
        for (P p : there.values()) {
            for (End e : p.ends) {
                if (e != null && e.pipe == pipe && e.reads() == reading) {
                    count++;
                }
            }
        }
        return count;
    }

    private void saw(String what) {
        seen.merge(what, 1, Integer::sum);
    }

    private void ready(P p) {
        p.state = 1;
        p.until = 0;
        queue.add(p);
    }

    private void wakeOne(List<P> waiting) {
        if (!waiting.isEmpty()) {
            ready(waiting.remove(0));
        }
    }

    private void wakeAll(List<P> waiting) {
        if (waiting.size() > 1) {
            saw("all of several woke");
        }
        while (!waiting.isEmpty()) {
            wakeOne(waiting);
        }
    }

    private void step() {
        time++;
        there.values().stream().filter(p -> p.state == 5 && p.until <= time)
            .sorted((a, b) -> a.until != b.until ? a.until - b.until : a.number - b.number)
            .toList().forEach(this::ready);
        if (queue.isEmpty()) {
            saw("an idle step");
            return;
        }
        P p = queue.get(0);
        if (p != first) {
            first = p;
            done = 0;
        }
        int before = p.place;
        boolean yields = false;
        try {
            yields = instruction(p);
        } catch (Fault f) {
            saw("FAULT " + f.number);
            p.place = before;
            end(p, -1000 - f.number);
        }
        done++;
        boolean inQueue = queue.contains(p);
        if (inQueue && (yields || done >= quantum)) {
            queue.remove(p);
            queue.add(p);
            first = null;
        } else if (!inQueue) {
            first = null;
        }
    }

    private static int pop(List<Integer> s) throws Fault {
        if (s.isEmpty()) {
            throw new Fault(1);
        }
        return s.remove(s.size() - 1);
    }

    private static int at(int place) throws Fault {
        if (place < 0 || place > 127) {
            throw new Fault(3);
        }
        return place;
    }

    /** Takes the stack over, or throws before anything else is done. */
    private static void put(P p, List<Integer> s, int... words) throws Fault {
        for (int word : words) {
            s.add(word);
        }
        if (s.size() > 32) {
            throw new Fault(2);
        }
        p.stack = s;
        p.place++;
    }

    private boolean instruction(P p) throws Fault {
        if (p.place < 0 || p.place > 127) {
            throw new Fault(4);
        }
        int word = p.memory[p.place];
        int kind = Math.floorMod(word, 256);
        int a = Math.floorDiv(word, 256);
        saw("kind " + kind);
        List<Integer> s = new ArrayList<>(p.stack);
        if (kind <= 17) {
            plain(p, s, kind, a);
        } else if (kind <= 25) {
            places(p, s, kind, a);
        } else if (kind >= 30 && kind <= 34) {
            talk(p, s, kind);
        } else if (kind >= 35 && kind <= 41) {
            others(p, s, kind);
        } else {
            throw new Fault(5);
        }
        return kind == 32;
    }

    private void plain(P p, List<Integer> s, int kind, int a) throws Fault {
        if (kind == 0) {
            put(p, s);
        } else if (kind == 1) {
            put(p, s, a);
        } else if (kind == 2) {
            pop(s);
            put(p, s);
        } else if (kind == 3) {
            int x = pop(s);
            put(p, s, x, x);
        } else if (kind == 17) {
            put(p, s, pop(s) == 0 ? 1 : 0);
        } else {
            int y = pop(s);
            int x = pop(s);
            if (kind == 4) {
                put(p, s, y, x);
            } else {
                put(p, s, (int) ofTwo(kind, x, y));
            }
        }
    }

    private static long ofTwo(int kind, long x, long y) throws Fault {
        if ((kind == 8 || kind == 9) && y == 0) {
            throw new Fault(6);
        }
        return switch (kind) {
            case 5 -> x + y;
            case 6 -> x - y;
            case 7 -> x * y;
            case 8 -> x / y;
            case 9 -> x % y;
            case 10 -> x & y;
            case 11 -> x | y;
            case 12 -> x ^ y;
            case 13 -> x << Math.floorMod(y, 32);
            case 14 -> Math.floorDiv(x, 1L << Math.floorMod(y, 32));
            case 15 -> x < y ? 1 : 0;
            default -> x == y ? 1 : 0;
        };
    }

    private void places(P p, List<Integer> s, int kind, int a) throws Fault {
        int next = p.place + 1;
        switch (kind) {
            case 18 -> put(p, s, p.memory[at(a)]);
            case 19 -> {
                int x = pop(s);
                at(a);
                put(p, s);
                p.memory[a] = x;
            }
            case 20 -> put(p, s, p.memory[at(pop(s))]);
            case 21 -> {
                int y = pop(s);
                int x = pop(s);
                at(y);
                put(p, s);
                p.memory[y] = x;
            }
            case 22 -> p.place = a;
            case 23 -> {
                int x = pop(s);
                put(p, s);
                p.place = x == 0 ? a : next;
            }
            case 24 -> {
                put(p, s, next);
                p.place = a;
            }
            default -> {
                int x = pop(s);
                put(p, s);
                p.place = x;
            }
        }
    }

    private static End endOf(P p, int d) {
        return d >= 0 && d < 8 ? p.ends[d] : null;
    }

    private void talk(P p, List<Integer> s, int kind) throws Fault {
        if (kind == 30) {
            int x = pop(s);
            put(p, s);
            end(p, x);
        } else if (kind == 31) {
            put(p, s, p.number);
        } else if (kind == 32) {
            put(p, s);
        } else if (kind == 33) {
            int y = pop(s);
            write(p, s, pop(s), endOf(p, y));
        } else {
            read(p, s, endOf(p, pop(s)));
        }
    }

    private void begin(P p, int state, List<P> waiting) {
        queue.remove(p);
        p.state = state;
        waiting.add(p);
        saw("state " + state);
    }

    private void write(P p, List<Integer> s, int x, End e) throws Fault {
        if (e != null && e.value == 2) {
            put(p, s, 1);
            printed.add(x);
            if (printed.size() > 500) {
                saw("more than 500 words went out");
            }
        } else if (e == null || !e.writes()) {
            put(p, s, -1);
        } else if (ends(e.pipe, true) == 0) {
            put(p, s, -2);
            saw("no reading end");
        } else if (e.pipe.words.size() == capacity) {
            begin(p, 3, e.pipe.writers);
        } else {
            put(p, s, 1);
            e.pipe.words.add(x);
            wakeOne(e.pipe.readers);
        }
    }

    private void read(P p, List<Integer> s, End e) throws Fault {
        if (e == null || !e.reads() && e.value != 1) {
            put(p, s, 0, -1);
            return;
        }
        Deque<Integer> from = e.reads() ? e.pipe.words : in;
        if (!from.isEmpty()) {
            put(p, s, from.peek(), 1);
            from.remove();
            if (e.reads()) {
                wakeOne(e.pipe.writers);
            }
        } else if (e.reads() ? ends(e.pipe, false) == 0 : shut) {
            put(p, s, 0, 0);
            saw("no word will come");
        } else {
            begin(p, 2, e.reads() ? e.pipe.readers : inReaders);
        }
    }

    private void others(P p, List<Integer> s, int kind) throws Fault {
        switch (kind) {
            case 35 -> fork(p, s);
            case 36 -> await(p, s);
            case 37 -> {
                P victim = there.get(pop(s));
                if (victim == p) {
                    put(p, s);
                } else {
                    put(p, s, victim != null && victim.state != 6 ? 0 : -1);
                }
                if (victim != null && victim.state != 6) {
                    saw("KILL in state " + victim.state);
                    end(victim, -9);
                }
            }
            case 38 -> pipe(p, s);
            case 39 -> {
                int d = pop(s);
                boolean open = endOf(p, d) != null;
                put(p, s, open ? 0 : -1);
                if (open) {
                    close(p, d);
                }
            }
            case 40 -> {
                End e = endOf(p, pop(s));
                int free = free(p, 0);
                put(p, s, e == null ? -1 : free);
                if (e != null && free >= 0) {
                    p.ends[free] = e;
                }
            }
            default -> {
                int x = pop(s);
                put(p, s, 0);
                if (x > 0) {
                    begin(p, 5, new ArrayList<>());
                    p.until = (int) Math.min(Integer.MAX_VALUE, (long) time + x);
                }
            }
        }
    }

    private static int free(P p, int from) {
        for (int d = from; d < 8; d++) {
            if (p.ends[d] == null) {
                return d;
            }
        }
        return -1;
    }

    private void fork(P p, List<Integer> s) throws Fault {
        int n = 0;
        while (there.containsKey(n)) {
            n++;
        }
        List<Integer> copied = new ArrayList<>(s);
        put(p, s, n < 16 ? n : -1);
        if (n == 16) {
            saw("no number is free");
            return;
        }
        P child = new P();
        child.number = n;
        child.memory = p.memory.clone();
        child.stack = copied;
        child.stack.add(0);
        child.ends = p.ends.clone();
        child.place = p.place;
        child.parent = p;
        there.put(n, child);
        ready(child);
        if (n == 0) {
            saw("process 0 anew");
        }
    }

    private void await(P p, List<Integer> s) throws Fault {
        boolean any = false;
        for (P child : there.values()) {
            if (child.parent == p) {
                any = true;
                if (child.state == 6) {
                    put(p, s, child.code, child.number);
                    there.remove(child.number);
                    saw("a child is taken");
                    return;
                }
            }
        }
        if (any) {
            begin(p, 4, new ArrayList<>());
        } else {
            put(p, s, 0, -1);
        }
    }

    private void pipe(P p, List<Integer> s) throws Fault {
        int n = 0;
        while (n < 8 && pipes[n] != null) {
            n++;
        }
        int reading = free(p, 0);
        int writing = reading < 0 ? -1 : free(p, reading + 1);
        if (n == 8 || writing < 0) {
            put(p, s, -1, -1);
            saw(n == 8 ? "no pipe is free" : "no descriptors are free");
            return;
        }
        put(p, s, reading, writing);
        pipes[n] = new Pipe(n);
        p.ends[reading] = new End(10 + n, pipes[n]);
        p.ends[writing] = new End(20 + n, pipes[n]);
    }

    private void close(P p, int d) {
        Pipe pipe = p.ends[d].pipe;
        boolean reading = p.ends[d].reads();
        p.ends[d] = null;
        if (pipe == null) {
            return;
        }
        if (ends(pipe, reading) == 0) {
            wakeAll(reading ? pipe.writers : pipe.readers);
        }
        if (ends(pipe, true) + ends(pipe, false) == 0) {
            pipes[pipe.number] = null;
        }
    }

    private void end(P p, int code) {
        queue.remove(p);
        inReaders.remove(p);
        for (Pipe pipe : pipes) {
            if (pipe != null) {
                pipe.readers.remove(p);
                pipe.writers.remove(p);
            }
        }
        p.state = 0;
        p.until = 0;
        for (int d = 0; d < 8; d++) {
            if (p.ends[d] != null) {
                close(p, d);
            }
        }
        P zero = there.get(0);
        P heir = zero == null || zero == p || zero.state == 6 ? null : zero;
        for (P child : new ArrayList<>(there.values())) {
            if (child.parent == p) {
                child.parent = heir;
                saw(heir == null ? "a child without a parent" : child == heir ? "its own parent" : "a child goes to 0");
                if (heir == null && child.state == 6) {
                    there.remove(child.number);
                }
            }
        }
        p.state = 6;
        p.code = code;
        if (p.parent == null) {
            there.remove(p.number);
        } else if (p.parent.state == 4) {
            ready(p.parent);
        }
        if (zero != null && zero.state == 4
            && there.values().stream().anyMatch(c -> c.parent == zero && c.state == 6)) {
            ready(zero);
            saw("process 0 has got one that ENDED");
        }
    }
}

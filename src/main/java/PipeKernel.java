/** A small kernel: processes on a stack machine, pipes between them, and a console. */
public final class PipeKernel {
    public static final int NONE = -1;
    public static final int READY = 1, READS = 2, WRITES = 3, WAITS = 4, SLEEPS = 5, ENDED = 6;

    private static final int ABSENT = 0;

    private static final int PROCESSES = 16;
    private static final int MEMORY_SIZE = 128;
    private static final int STACK_SIZE = 32;
    private static final int DESCRIPTORS = 8;
    private static final int PIPES = 8;
    private static final int MOST_QUANTUM = 100;
    private static final int MOST_CAPACITY = 16;
    private static final int MOST_STEPS = 40;
    private static final int MOST_INPUT = 100;
    private static final int KEPT_OUTPUT = 500;
    private static final int LAST_TIME = 2147483647;

    // What a descriptor is, in the numbers of descriptor(): a pipe's number is added to the last two.
    private static final int CLOSED = 0, IN = 1, OUT = 2, READING = 10, WRITING = 20;
    private static final int DESCRIPTOR_KINDS = WRITING + PIPES;

    private static final int KILLED = -9;
    private static final int FAULTED = -1000;
    private static final int STACK_EMPTY = 1, STACK_FULL = 2, NO_MEMORY = 3, NO_PLACE = 4, NO_KIND = 5, NO_QUOTIENT = 6;

    private static final int NOTHING = 0, PUSH = 1, DROP = 2, TWICE = 3, SWAP = 4;
    private static final int PLUS = 5, MINUS = 6, TIMES = 7, QUOTIENT = 8, REMAINDER = 9;
    private static final int AND = 10, OR = 11, EXCLUSIVE_OR = 12, SHIFT_UP = 13, SHIFT_DOWN = 14;
    private static final int LESS = 15, SAME = 16, NOT = 17;
    private static final int FETCH = 18, STORE = 19, FETCH_AT = 20, STORE_AT = 21;
    private static final int JUMP = 22, JUMP_IF_ZERO = 23, CALL = 24, RETURN = 25;
    private static final int EXIT = 30, NUMBER = 31, YIELD = 32, WRITE = 33, READ = 34, FORK = 35, WAIT = 36;
    private static final int KILL = 37, PIPE = 38, CLOSE = 39, DUPLICATE = 40, SLEEP = 41;

    // For each kind, how many words of the stack it looks at; NONE where there is no such kind.
    private static final int[] LOOKS_AT = {
        0, 0, 1, 1, 2, 2, 2, 2, 2, 2,
        2, 2, 2, 2, 2, 2, 2, 1, 0, 1,
        1, 2, 0, 1, 0, 1, -1, -1, -1, -1,
        1, 0, 0, 2, 1, 0, 0, 1, 0, 1,
        1, 1};

    // For each kind, by how many words the stack is higher behind it.
    private static final int[] GROWS_BY = {
        0, 1, -1, 1, 0, -1, -1, -1, -1, -1,
        -1, -1, -1, -1, -1, -1, -1, 0, 1, -1,
        0, -2, 0, -1, 1, -1, 0, 0, 0, 0,
        -1, 1, 0, -1, 1, 1, 2, 0, 2, 0,
        0, 0};

    private final int quantum;
    private final Proc[] procs = new Proc[PROCESSES];
    private final Words[] pipes = new Words[PIPES];
    // How many descriptors of all processes are the same end of the same pipe.
    private final int[] ends = new int[DESCRIPTOR_KINDS];
    private final int[] ready = new int[PROCESSES];
    private int readyCount = 0;
    private int doneByFirst = 0;
    private int now = 0;
    private int waitsBegun = 0;
    private boolean booted = false;
    private final Words input = new Words(MOST_INPUT);
    private boolean inputShut = false;
    private final Words output = new Words(KEPT_OUTPUT);
    private int outputCount = 0;

    public PipeKernel(int quantum, int capacity) {
        this.quantum = Math.max(1, Math.min(quantum, MOST_QUANTUM));
        int room = Math.max(1, Math.min(capacity, MOST_CAPACITY));
        for (int i = 0; i < PROCESSES; i++) {
            procs[i] = new Proc(i);
        }
        for (int i = 0; i < PIPES; i++) {
            pipes[i] = new Words(room);
        }
    }

    public void load(int place, int word) throws IndexOutOfBoundsException, IllegalStateException {
        if (place < 0 || place >= MEMORY_SIZE) {
            throw new IndexOutOfBoundsException("no such place");
        }
        if (booted) {
            throw new IllegalStateException("it was booted");
        }
        procs[0].memory[place] = word;
    }

    public void boot() throws IllegalStateException {
        if (booted) {
            throw new IllegalStateException("it was booted");
        }
        booted = true;
        procs[0].descriptors[0] = IN;
        procs[0].descriptors[1] = OUT;
        makeReady(procs[0]);
    }

    public int run(int n) throws IllegalArgumentException {
        if (n < 0 || n > MOST_STEPS) {
            throw new IllegalArgumentException("steps are 0 .. 40");
        }
        int done = 0;
        while (done < n && goesOn()) {
            step();
            done++;
        }
        return done;
    }

    public int feed(int word) throws IllegalStateException {
        if (inputShut || input.isFull()) {
            throw new IllegalStateException("it is shut or full");
        }
        input.add(word);
        wakeFirst(IN);
        return input.count;
    }

    public boolean shut() {
        if (inputShut) {
            return false;
        }
        inputShut = true;
        wakeAll(IN);
        return true;
    }

    public int time() {
        return now;
    }

    public int state(int process) throws IndexOutOfBoundsException {
        if (process < 0 || process >= PROCESSES) {
            throw new IndexOutOfBoundsException("no such process");
        }
        return procs[process].state;
    }

    public int about(int process, int what)
            throws IndexOutOfBoundsException, IllegalArgumentException, IllegalStateException {
        if (process < 0 || process >= PROCESSES) {
            throw new IndexOutOfBoundsException("no such process");
        }
        if (what < 0 || what > 5) {
            throw new IllegalArgumentException("what is 0 .. 5");
        }
        Proc p = procs[process];
        if (p.state == ABSENT) {
            throw new IllegalStateException("the process is not there");
        }
        switch (what) {
            case 0: return p.place;
            case 1: return p.height;
            case 2: return p.parent;
            case 3: return p.state == ENDED ? p.code : 0;
            case 4: return p.state == SLEEPS ? p.wakeTime : 0;
            default: return p.openDescriptors();
        }
    }

    public int stack(int process, int i) throws IndexOutOfBoundsException {
        if (!isThere(process) || i < 0 || i >= procs[process].height) {
            throw new IndexOutOfBoundsException("no such process or word");
        }
        Proc p = procs[process];
        return p.words[p.height - 1 - i];
    }

    public int memory(int process, int place) throws IndexOutOfBoundsException {
        if (!isThere(process) || place < 0 || place >= MEMORY_SIZE) {
            throw new IndexOutOfBoundsException("no such process or place");
        }
        return procs[process].memory[place];
    }

    public int queue(int i) throws IndexOutOfBoundsException {
        if (i < 0) {
            throw new IndexOutOfBoundsException("below the queue's beginning");
        }
        return i < readyCount ? ready[i] : NONE;
    }

    public int descriptor(int process, int d) throws IndexOutOfBoundsException {
        if (!isThere(process) || d < 0 || d >= DESCRIPTORS) {
            throw new IndexOutOfBoundsException("no such process or descriptor");
        }
        return procs[process].descriptors[d];
    }

    public int pipe(int p, int what) throws IndexOutOfBoundsException, IllegalArgumentException {
        if (p < 0 || p >= PIPES) {
            throw new IndexOutOfBoundsException("no such pipe");
        }
        switch (what) {
            case 0: return pipes[p].count;
            case 1: return ends[READING + p];
            case 2: return ends[WRITING + p];
            case 3: return countWaiting(READING + p);
            case 4: return countWaiting(WRITING + p);
            default: throw new IllegalArgumentException("what is 0 .. 4");
        }
    }

    public int outs() {
        return outputCount;
    }

    public int out(int i) throws IndexOutOfBoundsException {
        if (i < 0 || i >= output.count) {
            throw new IndexOutOfBoundsException("no such word");
        }
        return output.at(i);
    }

    private boolean goesOn() {
        if (readyCount > 0) {
            return true;
        }
        for (int i = 0; i < PROCESSES; i++) {
            if (procs[i].state == SLEEPS) {
                return true;
            }
        }
        return false;
    }

    private void step() {
        now++;
        wakeSleepers();
        if (readyCount == 0) {
            return;
        }
        Proc p = procs[ready[0]];
        doneByFirst++;
        int fault = p.findFault();
        if (fault != 0) {
            end(p, FAULTED - fault);
        } else if (mustWait(p)) {
            beginToWait(p);
        } else if (p.wouldOverflow()) {
            end(p, FAULTED - STACK_FULL);
        } else {
            perform(p);
        }
        if (p.state == READY && doneByFirst >= quantum) {
            goToQueueEnd(p);
        }
    }

    // Every step looks, so all whose time has come have the same time: their numbers alone tell the order.
    private void wakeSleepers() {
        for (int i = 0; i < PROCESSES; i++) {
            if (procs[i].state == SLEEPS && procs[i].wakeTime <= now) {
                makeReady(procs[i]);
            }
        }
    }

    private boolean mustWait(Proc p) {
        switch (p.kind()) {
            case WRITE: return writeBlocks(p.descriptorAt(p.top()));
            case READ: return readBlocks(p.descriptorAt(p.top()));
            case WAIT: return hasChild(p) && endedChild(p) == null;
            default: return false;
        }
    }

    // PLACE and stack stay, so that it does the same instruction again in its turn.
    private void beginToWait(Proc p) {
        leaveQueue(p);
        int kind = p.kind();
        if (kind == WAIT) {
            p.state = WAITS;
            return;
        }
        p.state = kind == READ ? READS : WRITES;
        p.waitsOn = p.descriptorAt(p.top());
        p.waitsSince = waitsBegun;
        waitsBegun++;
    }

    private boolean writeBlocks(int what) {
        return isWritingEnd(what) && ends[otherEnd(what)] > 0 && pipes[what - WRITING].isFull();
    }

    private boolean readBlocks(int what) {
        if (what == IN) {
            return input.isEmpty() && !inputShut;
        }
        return isReadingEnd(what) && ends[otherEnd(what)] > 0 && pipes[what - READING].isEmpty();
    }

    private void perform(Proc p) {
        int kind = p.kind();
        int a = p.operand();
        p.place++;
        switch (kind) {
            case EXIT: end(p, p.pop()); break;
            case NUMBER: p.push(p.number); break;
            case YIELD: goToQueueEnd(p); break;
            case WRITE: write(p); break;
            case READ: read(p); break;
            case FORK: fork(p); break;
            case WAIT: takeEndedChild(p); break;
            case KILL: kill(p); break;
            case PIPE: openPipe(p); break;
            case CLOSE: close(p); break;
            case DUPLICATE: duplicate(p); break;
            case SLEEP: sleep(p); break;
            default: p.compute(kind, a); break;
        }
    }

    private void write(Proc p) {
        int what = p.descriptorAt(p.pop());
        int word = p.pop();
        if (what == OUT) {
            print(word);
            p.push(1);
        } else if (!isWritingEnd(what)) {
            p.push(-1);
        } else if (ends[otherEnd(what)] == 0) {
            p.push(-2);
        } else {
            pipes[what - WRITING].add(word);
            wakeFirst(otherEnd(what));
            p.push(1);
        }
    }

    private void print(int word) {
        if (output.isFull()) {
            output.take();
        }
        output.add(word);
        outputCount++;
    }

    private void read(Proc p) {
        int what = p.descriptorAt(p.pop());
        if (what == IN) {
            pushNext(p, input);
        } else if (!isReadingEnd(what)) {
            p.pushTwo(0, -1);
        } else if (pushNext(p, pipes[what - READING])) {
            wakeFirst(otherEnd(what));
        }
    }

    private boolean pushNext(Proc p, Words from) {
        if (from.isEmpty()) {
            p.pushTwo(0, 0);
            return false;
        }
        p.pushTwo(from.take(), 1);
        return true;
    }

    private void fork(Proc p) {
        Proc child = freeProc();
        if (child == null) {
            p.push(-1);
            return;
        }
        child.copy(p);
        for (int d = 0; d < DESCRIPTORS; d++) {
            addEnd(child.descriptors[d]);
        }
        p.push(child.number);
        child.push(0);
        makeReady(child);
    }

    private Proc freeProc() {
        for (int i = 0; i < PROCESSES; i++) {
            if (procs[i].state == ABSENT) {
                return procs[i];
            }
        }
        return null;
    }

    private void takeEndedChild(Proc p) {
        Proc child = endedChild(p);
        if (child == null) {
            p.pushTwo(0, -1);
            return;
        }
        child.state = ABSENT;
        p.pushTwo(child.code, child.number);
    }

    private boolean hasChild(Proc p) {
        for (int i = 0; i < PROCESSES; i++) {
            if (procs[i].isChildOf(p)) {
                return true;
            }
        }
        return false;
    }

    private Proc endedChild(Proc p) {
        for (int i = 0; i < PROCESSES; i++) {
            if (procs[i].isChildOf(p) && procs[i].state == ENDED) {
                return procs[i];
            }
        }
        return null;
    }

    private void kill(Proc p) {
        int victim = p.pop();
        if (!isThere(victim) || procs[victim].state == ENDED) {
            p.push(-1);
            return;
        }
        if (victim != p.number) {
            p.push(0);
        }
        end(procs[victim], KILLED);
    }

    private void openPipe(Proc p) {
        int pipe = freePipe();
        if (pipe == NONE || p.countClosed() < 2) {
            p.pushTwo(-1, -1);
            return;
        }
        int reading = openDescriptor(p, READING + pipe);
        int writing = openDescriptor(p, WRITING + pipe);
        p.pushTwo(reading, writing);
    }

    private int freePipe() {
        for (int i = 0; i < PIPES; i++) {
            if (ends[READING + i] == 0 && ends[WRITING + i] == 0) {
                return i;
            }
        }
        return NONE;
    }

    private int openDescriptor(Proc p, int what) {
        int d = p.leastClosed();
        if (d != NONE) {
            p.descriptors[d] = what;
            addEnd(what);
        }
        return d;
    }

    private void addEnd(int what) {
        if (what >= READING) {
            ends[what]++;
        }
    }

    private void close(Proc p) {
        int d = p.pop();
        if (p.descriptorAt(d) == CLOSED) {
            p.push(-1);
            return;
        }
        wakeAll(closeDescriptor(p, d));
        p.push(0);
    }

    // Answers whose waiters can go on by it: the other end's, if this was the last one of its kind; else CLOSED,
    // on which none waits.
    private int closeDescriptor(Proc p, int d) {
        int what = p.descriptors[d];
        p.descriptors[d] = CLOSED;
        if (what < READING) {
            return CLOSED;
        }
        ends[what]--;
        if (ends[what] > 0) {
            return CLOSED;
        }
        int other = otherEnd(what);
        if (ends[other] == 0) {
            pipes[what < WRITING ? what - READING : what - WRITING].clear();
        }
        return other;
    }

    private void duplicate(Proc p) {
        int what = p.descriptorAt(p.pop());
        p.push(what == CLOSED ? NONE : openDescriptor(p, what));
    }

    private void sleep(Proc p) {
        int steps = p.pop();
        p.push(0);
        if (steps > 0) {
            leaveQueue(p);
            p.state = SLEEPS;
            p.wakeTime = steps > LAST_TIME - now ? LAST_TIME : now + steps;
        }
    }

    private void end(Proc p, int code) {
        leaveQueue(p);
        // Before its descriptors are closed: that must not wake it.
        p.waitsOn = NONE;
        p.state = ENDED;
        p.code = code;
        for (int d = 0; d < DESCRIPTORS; d++) {
            wakeAll(closeDescriptor(p, d));
        }
        handOverChildren(p);
        if (p.parent == NONE) {
            p.state = ABSENT;
        } else if (procs[p.parent].state == WAITS) {
            makeReady(procs[p.parent]);
        }
        if (procs[0].state == WAITS && endedChild(procs[0]) != null) {
            makeReady(procs[0]);
        }
    }

    // A later process 0 can be one of the children, and is its own child then: the document makes no exception.
    private void handOverChildren(Proc p) {
        boolean adopted = p.number != 0 && procs[0].state != ABSENT && procs[0].state != ENDED;
        for (int i = 0; i < PROCESSES; i++) {
            Proc child = procs[i];
            if (child.isChildOf(p)) {
                child.parent = adopted ? 0 : NONE;
                if (!adopted && child.state == ENDED) {
                    child.state = ABSENT;
                }
            }
        }
    }

    private boolean isThere(int process) {
        return process >= 0 && process < PROCESSES && procs[process].state != ABSENT;
    }

    private static boolean isReadingEnd(int what) {
        return what >= READING && what < READING + PIPES;
    }

    private static boolean isWritingEnd(int what) {
        return what >= WRITING && what < WRITING + PIPES;
    }

    private static int otherEnd(int what) {
        return what < WRITING ? what - READING + WRITING : what - WRITING + READING;
    }

    private int countWaiting(int what) {
        int count = 0;
        for (int i = 0; i < PROCESSES; i++) {
            if (procs[i].waitsOn == what) {
                count++;
            }
        }
        return count;
    }

    private Proc longestWaiting(int what) {
        Proc longest = null;
        for (int i = 0; i < PROCESSES; i++) {
            Proc p = procs[i];
            if (p.waitsOn == what && (longest == null || p.waitsSince < longest.waitsSince)) {
                longest = p;
            }
        }
        return longest;
    }

    private void wakeFirst(int what) {
        Proc p = longestWaiting(what);
        if (p != null) {
            makeReady(p);
        }
    }

    private void wakeAll(int what) {
        for (int i = 0; i < PROCESSES; i++) {
            Proc p = longestWaiting(what);
            if (p == null) {
                return;
            }
            makeReady(p);
        }
    }

    private void makeReady(Proc p) {
        p.state = READY;
        p.waitsOn = NONE;
        ready[readyCount] = p.number;
        readyCount++;
    }

    private void leaveQueue(Proc p) {
        int kept = 0;
        for (int i = 0; i < readyCount; i++) {
            if (ready[i] != p.number) {
                ready[kept] = ready[i];
                kept++;
            } else if (i == 0) {
                doneByFirst = 0;
            }
        }
        readyCount = kept;
    }

    private void goToQueueEnd(Proc p) {
        leaveQueue(p);
        makeReady(p);
    }

    /** Words in turn: a pipe's, or the console's. */
    private static final class Words {
        final int[] words;
        int first = 0;
        int count = 0;

        Words(int room) {
            words = new int[room];
        }

        boolean isEmpty() {
            return count == 0;
        }

        boolean isFull() {
            return count == words.length;
        }

        int at(int i) {
            return words[wrap(first + i)];
        }

        void add(int word) {
            words[wrap(first + count)] = word;
            count++;
        }

        int take() {
            int word = words[first];
            first = wrap(first + 1);
            count--;
            return word;
        }

        void clear() {
            count = 0;
        }

        int wrap(int i) {
            return i < words.length ? i : i - words.length;
        }
    }

    /** A process, and what it can do without the others. */
    private static final class Proc {
        final int number;
        final int[] memory = new int[MEMORY_SIZE];
        final int[] words = new int[STACK_SIZE];
        final int[] descriptors = new int[DESCRIPTORS];
        int height = 0;
        int place = 0;
        int parent = NONE;
        int state = ABSENT;
        int code = 0;
        int wakeTime = 0;
        // What the descriptor is on which it waits to read or write; else NONE.
        int waitsOn = NONE;
        int waitsSince = 0;

        Proc(int number) {
            this.number = number;
        }

        void copy(Proc from) {
            System.arraycopy(from.memory, 0, memory, 0, MEMORY_SIZE);
            System.arraycopy(from.words, 0, words, 0, STACK_SIZE);
            System.arraycopy(from.descriptors, 0, descriptors, 0, DESCRIPTORS);
            height = from.height;
            place = from.place;
            parent = from.number;
        }

        boolean isChildOf(Proc p) {
            return state != ABSENT && parent == p.number;
        }

        int descriptorAt(int d) {
            return d >= 0 && d < DESCRIPTORS ? descriptors[d] : CLOSED;
        }

        int leastClosed() {
            for (int d = 0; d < DESCRIPTORS; d++) {
                if (descriptors[d] == CLOSED) {
                    return d;
                }
            }
            return NONE;
        }

        int countClosed() {
            return DESCRIPTORS - Integer.bitCount(openDescriptors());
        }

        int openDescriptors() {
            int open = 0;
            for (int d = 0; d < DESCRIPTORS; d++) {
                if (descriptors[d] != CLOSED) {
                    open |= 1 << d;
                }
            }
            return open;
        }

        int top() {
            return words[height - 1];
        }

        int pop() {
            height--;
            return words[height];
        }

        void push(int word) {
            words[height] = word;
            height++;
        }

        void pushTwo(int below, int top) {
            push(below);
            push(top);
        }

        int kind() {
            return memory[place] & 255;
        }

        int operand() {
            return memory[place] >> 8;
        }

        // All FAULTs but that of a stack too high: there is none where it begins to wait, which it can't tell alone.
        int findFault() {
            if (!isInMemory(place)) {
                return NO_PLACE;
            }
            int kind = kind();
            if (kind >= LOOKS_AT.length || LOOKS_AT[kind] == NONE) {
                return NO_KIND;
            }
            if (height < LOOKS_AT[kind]) {
                return STACK_EMPTY;
            }
            switch (kind) {
                case QUOTIENT: case REMAINDER: return top() == 0 ? NO_QUOTIENT : 0;
                case FETCH: case STORE: return isInMemory(operand()) ? 0 : NO_MEMORY;
                case FETCH_AT: case STORE_AT: return isInMemory(top()) ? 0 : NO_MEMORY;
                default: return 0;
            }
        }

        boolean wouldOverflow() {
            return height + GROWS_BY[kind()] > STACK_SIZE;
        }

        static boolean isInMemory(int place) {
            return place >= 0 && place < MEMORY_SIZE;
        }

        // PLACE is behind the instruction already.
        void compute(int kind, int a) {
            switch (kind) {
                case NOTHING: break;
                case PUSH: push(a); break;
                case DROP: pop(); break;
                case TWICE: push(top()); break;
                case SWAP: swap(); break;
                case NOT: push(pop() == 0 ? 1 : 0); break;
                case FETCH: push(memory[a]); break;
                case STORE: memory[a] = pop(); break;
                case FETCH_AT: push(memory[pop()]); break;
                case STORE_AT: storeAt(pop()); break;
                case JUMP: place = a; break;
                case JUMP_IF_ZERO: place = pop() == 0 ? a : place; break;
                case CALL: push(place); place = a; break;
                case RETURN: place = pop(); break;
                default: combine(kind); break;
            }
        }

        void swap() {
            int y = pop();
            int x = pop();
            pushTwo(y, x);
        }

        void storeAt(int to) {
            memory[to] = pop();
        }

        void combine(int kind) {
            int y = pop();
            int x = pop();
            push(result(kind, x, y));
        }

        static int result(int kind, int x, int y) {
            switch (kind) {
                case PLUS: return x + y;
                case MINUS: return x - y;
                case TIMES: return x * y;
                case QUOTIENT: return x / y;
                case REMAINDER: return x % y;
                case AND: return x & y;
                case OR: return x | y;
                case EXCLUSIVE_OR: return x ^ y;
                case SHIFT_UP: return x << (y & 31);
                case SHIFT_DOWN: return x >> (y & 31);
                case LESS: return x < y ? 1 : 0;
                default: return x == y ? 1 : 0;
            }
        }
    }
}

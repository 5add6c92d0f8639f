/** Pipes, signals and jobs of a small system with one terminal. */
public final class JobLayer {
    private static final int TASKS = 8;
    private static final int FILES = 6;
    private static final int PIPES = 6;
    private static final int PIPE_ROOM = 12;
    private static final int MOST_BYTES = 8;
    private static final int HEARD_KEPT = 16;
    private static final int SCREEN_KEPT = 64;
    private static final int LINE_ROOM = 24;
    private static final int MOST_LINES = 8;

    private static final int FREE = 0;
    private static final int READY = 1;
    private static final int BLOCKED = 2;
    private static final int STOPPED = 3;
    private static final int ZOMBIE = 4;

    private static final int INT = 1;
    private static final int PIPE = 2;
    private static final int USER = 3;
    private static final int STOP = 4;
    private static final int INPUT = 5;
    private static final int CONT = 6;
    private static final int CHILD = 7;
    private static final int KILL = 8;
    private static final int MASKABLE = 0xFE;

    private static final int DEFAULT = 0;
    private static final int IGNORE = 1;
    private static final int CATCH = 2;

    private static final int NO_FILE = 0;
    private static final int TERMINAL = 1;
    /** Pipe i has the file values READING + 2 * i and WRITING + 2 * i. */
    private static final int READING = 2;
    private static final int WRITING = 3;

    private static final int NO_CALL = 0;
    private static final int READ = 1;
    private static final int WRITE = 2;
    private static final int REAP = 3;
    private static final int PAUSE = 4;

    private static final int NOTHING = -1;
    private static final int USED_UP = -2;
    private static final int NO_CHILD = -3;
    private static final int INTERRUPTED = -4;
    private static final int IN_BACKGROUND = -5;
    private static final int NO_READER = -6;
    private static final int REFUSED = -7;
    private static final int NO_TARGET = -8;
    private static final int NOT_DONE = -9;
    /** Told inside only: the call is not done, and draws INPUT. */
    private static final int DRAWS = -10;

    private static final int SIGNAL_STATUS = 64;
    private static final int STOPPED_STATUS = 128;

    private static final int KEY_INT = 3;
    private static final int KEY_END = 4;
    private static final int KEY_BACK = 8;
    private static final int KEY_LINE = 10;
    private static final int KEY_ERASE = 21;
    private static final int KEY_STOP = 26;

    /** A settling needs at most some seventy steps: each that does a call unblocks a process. */
    private static final int SETTLE_STEPS = 1000;

    private final Task[] tasks = new Task[TASKS];
    private final ByteRow[] pipes = new ByteRow[PIPES];
    private final Terminal tty = new Terminal();
    private int blockedEver = 0;

    public JobLayer() {
        for (int i = 0; i < TASKS; i++) {
            tasks[i] = new Task(i);
        }
        for (int i = 0; i < PIPES; i++) {
            pipes[i] = new ByteRow(PIPE_ROOM);
        }
        tasks[0].state = READY;
        tasks[0].files[0] = TERMINAL;
        tasks[0].files[1] = TERMINAL;
    }

    public void key(int c) {
        if (c == KEY_INT || c == KEY_STOP) {
            tty.dropAllLines();
            sendToGroup(tty.foregroundGroup, c == KEY_INT ? INT : STOP);
        } else {
            tty.press(c);
        }
        settle();
    }

    public int fork(int p) throws IllegalStateException {
        Task parent = readyTask(p);
        for (int i = 0; i < TASKS; i++) {
            if (tasks[i].state == FREE) {
                tasks[i].startFrom(parent);
                settle();
                return i;
            }
        }
        return USED_UP;
    }

    public int end(int p, int status) throws IllegalStateException {
        Task task = readyTask(p);
        if (task.number == 0) {
            return REFUSED;
        }
        Task parent = endTask(task, status & 63);
        send(parent, CHILD);
        settle();
        return 0;
    }

    public int pipe(int p) throws IllegalStateException {
        Task task = readyTask(p);
        int first = task.leastUnusedFile(0);
        int second = task.leastUnusedFile(first + 1);
        int made = leastUnusedPipe();
        if (second >= FILES || made >= PIPES) {
            return USED_UP;
        }
        pipes[made].size = 0;
        task.files[first] = READING + 2 * made;
        task.files[second] = WRITING + 2 * made;
        settle();
        return first + 8 * second;
    }

    public int copy(int p, int from, int to) throws IllegalStateException {
        Task task = readyTask(p);
        int value = task.fileValue(from);
        if (value == NO_FILE || to < 0 || to >= FILES) {
            return NOTHING;
        }
        task.files[to] = value;
        settle();
        return to;
    }

    public int close(int p, int file) throws IllegalStateException {
        Task task = readyTask(p);
        if (task.fileValue(file) == NO_FILE) {
            return NOTHING;
        }
        task.files[file] = NO_FILE;
        settle();
        return 0;
    }

    public int read(int p, int file, int n) throws IllegalArgumentException, IllegalStateException {
        Task task = readyTask(p);
        checkByteCount(n);
        int kind = fileKind(task.fileValue(file));
        if (kind == NO_FILE || kind == WRITING) {
            return NOTHING;
        }
        task.call.prepareTransfer(READ, file, n, 0L);
        int answer = begin(task);
        settle();
        return answer;
    }

    public int write(int p, int file, long bytes, int n) throws IllegalArgumentException, IllegalStateException {
        Task task = readyTask(p);
        checkByteCount(n);
        int kind = fileKind(task.fileValue(file));
        if (kind == NO_FILE || kind == READING) {
            return NOTHING;
        }
        task.call.prepareTransfer(WRITE, file, n, bytes);
        int answer = begin(task);
        settle();
        return answer;
    }

    public int reap(int p, boolean stopped) throws IllegalStateException {
        Task task = readyTask(p);
        task.call.kind = REAP;
        task.call.alsoStopped = stopped;
        int answer = begin(task);
        settle();
        return answer;
    }

    public int pause(int p) throws IllegalStateException {
        Task task = readyTask(p);
        task.call.kind = PAUSE;
        int answer = begin(task);
        settle();
        return answer;
    }

    public int signal(int p, int to, int s) throws IllegalArgumentException, IllegalStateException {
        readyTask(p);
        if (s < INT || s > KILL || to < -TASKS || to >= TASKS) {
            throw new IllegalArgumentException();
        }
        boolean came = to >= 0 ? send(tasks[to], s) : sendToGroup(-1 - to, s);
        settle();
        return came ? 0 : NO_TARGET;
    }

    public int action(int p, int s, int how) throws IllegalArgumentException, IllegalStateException {
        Task task = readyTask(p);
        if (s < INT || s > CHILD || how < DEFAULT || how > CATCH) {
            throw new IllegalArgumentException();
        }
        int before = task.actions[s];
        task.actions[s] = how;
        if (how == IGNORE) {
            task.forget(s);
        }
        settle();
        return before;
    }

    public int mask(int p, int bits) throws IllegalStateException {
        Task task = readyTask(p);
        int before = task.mask;
        task.mask = bits & MASKABLE;
        Task parent = deliver(task);
        send(parent, CHILD);
        settle();
        return before;
    }

    public int group(int p, int q, int g) throws IllegalStateException {
        readyTask(p);
        if (q <= 0 || q >= TASKS || !tasks[q].isAlive()) {
            return REFUSED;
        }
        Task task = tasks[q];
        if ((q != p && task.parent != p) || (g != q && !isGroupAlive(g))) {
            return REFUSED;
        }
        task.group = g;
        settle();
        return 0;
    }

    public int foreground(int p, int g) throws IllegalStateException {
        Task task = readyTask(p);
        if (!isGroupAlive(g) || (p != 0 && task.group != tty.foregroundGroup)) {
            return REFUSED;
        }
        tty.foregroundGroup = g;
        settle();
        return 0;
    }

    public int process(int p, int what) {
        if (!isTask(p)) {
            return NOTHING;
        }
        Task task = tasks[p];
        if (what >= 10 && what < 10 + FILES) {
            return fileKind(task.files[what - 10]);
        }
        if (what >= 20 + INT && what <= 20 + CHILD) {
            return task.actions[what - 20];
        }
        switch (what) {
            case 0: return task.state;
            case 1: return task.parent;
            case 2: return task.group;
            case 3: return task.mask;
            case 4: return task.pending;
            case 5: return task.outcome;
            case 6: return task.takenCount;
            case 7: return task.heardEver;
            case 8: return task.state == ZOMBIE ? task.status : NOTHING;
            default: return NOTHING;
        }
    }

    public int taken(int p, int k) {
        if (!isTask(p) || k < 0 || k >= tasks[p].takenCount) {
            return NOTHING;
        }
        return tasks[p].takenRow[k];
    }

    public int heard(int p, int k) {
        if (!isTask(p)) {
            return NOTHING;
        }
        return kthLatest(tasks[p].heardRow, tasks[p].heardEver, k);
    }

    public int terminal(int k) {
        switch (k) {
            case -1: return tty.foregroundGroup;
            case -2: return tty.characters.size;
            case -3: return tty.readyLines;
            case -4: return tty.writtenEver;
            case -5: return countPipes();
            default: return kthLatest(tty.screen, tty.writtenEver, k);
        }
    }

    /** Of a ring into which countEver values were put, one behind the other. */
    private static int kthLatest(int[] ring, int countEver, int k) {
        if (k < 0 || k >= ring.length || k >= countEver) {
            return NOTHING;
        }
        return ring[(countEver - 1 - k) % ring.length];
    }

    private static int fileKind(int value) {
        if (value == NO_FILE || value == TERMINAL) {
            return value;
        }
        return READING + value % 2;
    }

    private static void checkByteCount(int n) throws IllegalArgumentException {
        if (n < 1 || n > MOST_BYTES) {
            throw new IllegalArgumentException();
        }
    }

    private Task readyTask(int p) throws IllegalStateException {
        if (!isTask(p) || tasks[p].state != READY) {
            throw new IllegalStateException();
        }
        return tasks[p];
    }

    private boolean isTask(int p) {
        return p >= 0 && p < TASKS && tasks[p].state != FREE;
    }

    /** Null for process 0 alone. */
    private Task parentOf(Task task) {
        return task.parent >= 0 && task.parent < TASKS ? tasks[task.parent] : null;
    }

    private boolean isGroupAlive(int g) {
        for (int i = 0; i < TASKS; i++) {
            if (tasks[i].isAlive() && tasks[i].group == g) {
                return true;
            }
        }
        return false;
    }

    private boolean isOrphaned(int g) {
        for (int i = 0; i < TASKS; i++) {
            Task task = tasks[i];
            Task parent = parentOf(task);
            if (task.isAlive() && task.group == g && parent != null && parent.isAlive() && parent.group != g) {
                return false;
            }
        }
        return true;
    }

    private boolean isOpen(int fileValue) {
        for (int i = 0; i < TASKS; i++) {
            for (int k = 0; k < FILES; k++) {
                if (tasks[i].files[k] == fileValue) {
                    return true;
                }
            }
        }
        return false;
    }

    private boolean isPipe(int i) {
        return isOpen(READING + 2 * i) || isOpen(WRITING + 2 * i);
    }

    private int leastUnusedPipe() {
        for (int i = 0; i < PIPES; i++) {
            if (!isPipe(i)) {
                return i;
            }
        }
        return PIPES;
    }

    private int countPipes() {
        int count = 0;
        for (int i = 0; i < PIPES; i++) {
            if (isPipe(i)) {
                count++;
            }
        }
        return count;
    }

    private boolean sendToGroup(int g, int s) {
        boolean came = false;
        for (int i = 0; i < TASKS; i++) {
            if (tasks[i].group == g && send(tasks[i], s)) {
                came = true;
            }
        }
        return came;
    }

    /**
     * False when nobody is there to whom it could come. A process that stops or ends by it takes no
     * further signal then, so the CHILD for its parent may wait until its own delivery is over.
     */
    private boolean send(Task target, int s) {
        if (target == null || !target.isAlive()) {
            return false;
        }
        Task to = target;
        int coming = s;
        for (int hop = 0; hop < TASKS && to != null; hop++) {
            to.admit(coming);
            to = coming == KILL ? endTask(to, SIGNAL_STATUS + KILL) : deliver(to);
            coming = CHILD;
        }
        return true;
    }

    /** The parent to which CHILD comes, if the task stops or ends by what is delivered. */
    private Task deliver(Task task) {
        if (task.state == STOPPED) {
            return null;
        }
        for (int s = INT; s <= CHILD; s++) {
            if (!task.isDue(s)) {
                continue;
            }
            task.forget(s);
            if (task.actions[s] == CATCH) {
                task.hear(s);
            } else if (task.number != 0 && s <= USER) {
                return endTask(task, SIGNAL_STATUS + s);
            } else if (task.number != 0 && s <= INPUT && !isOrphaned(task.group)) {
                task.state = STOPPED;
                task.stopTold = false;
                return parentOf(task);
            }
        }
        return null;
    }

    /** The parent to which CHILD comes; null for process 0, which never ends. */
    private Task endTask(Task task, int status) {
        Task parent = parentOf(task);
        if (parent == null) {
            return null;
        }
        task.leave(status);
        for (int i = 0; i < TASKS; i++) {
            if (tasks[i].parent == task.number) {
                tasks[i].parent = 0;
            }
        }
        task.state = parent.actions[CHILD] == IGNORE ? FREE : ZOMBIE;
        return parent;
    }

    /** Makes the prepared call of a READY task. */
    private int begin(Task task) {
        int answer = attempt(task);
        if (answer == NOT_DONE || answer == DRAWS) {
            // The settling finds the blocked call and lets it draw INPUT.
            blockedEver++;
            task.block(blockedEver);
            answer = NOT_DONE;
        } else {
            task.call.kind = NO_CALL;
            if (answer == NO_READER) {
                send(task, PIPE);
            }
        }
        return answer;
    }

    private void settle() {
        int tried = 0;
        for (int step = 0; step < SETTLE_STEPS; step++) {
            Task task = firstBlockedAfter(tried);
            if (task == null) {
                return;
            }
            int answer = attempt(task);
            if (answer == NOT_DONE) {
                tried = task.call.order;
            } else {
                conclude(task, answer);
                tried = 0;
            }
        }
    }

    private Task firstBlockedAfter(int order) {
        Task first = null;
        for (int i = 0; i < TASKS; i++) {
            Task task = tasks[i];
            if (task.state == BLOCKED && task.call.order > order
                    && (first == null || task.call.order < first.call.order)) {
                first = task;
            }
        }
        return first;
    }

    private void conclude(Task task, int answer) {
        if (answer == DRAWS) {
            sendToGroup(task.group, INPUT);
            return;
        }
        task.unblock(answer);
        if (answer == NO_READER) {
            send(task, PIPE);
        }
    }

    /** What the task's call answers if it can be done now, else NOT_DONE or DRAWS with nothing changed. */
    private int attempt(Task task) {
        switch (task.call.kind) {
            case READ: return attemptRead(task);
            case WRITE: return attemptWrite(task);
            case REAP: return attemptReap(task);
            default: return NOT_DONE;
        }
    }

    private int attemptRead(Task task) {
        int value = task.fileValue(task.call.file);
        if (value == TERMINAL) {
            return attemptTerminalRead(task);
        }
        int i = value / 2 - 1;
        if (i < 0 || i >= PIPES) {
            return NOTHING;
        }
        if (pipes[i].size == 0 && isOpen(WRITING + 2 * i)) {
            return NOT_DONE;
        }
        task.takenCount = pipes[i].moveFirst(task.call.count, task.takenRow);
        return task.takenCount;
    }

    private int attemptTerminalRead(Task task) {
        if (task.group != tty.foregroundGroup) {
            boolean deaf = task.number == 0 || task.actions[INPUT] == IGNORE || task.isMasked(INPUT);
            return deaf || isOrphaned(task.group) ? IN_BACKGROUND : DRAWS;
        }
        if (tty.readyLines == 0) {
            return NOT_DONE;
        }
        task.takenCount = tty.moveFromFirstLine(task.call.count, task.takenRow);
        return task.takenCount;
    }

    private int attemptWrite(Task task) {
        Call call = task.call;
        int value = task.fileValue(call.file);
        if (value == TERMINAL) {
            for (int k = 0; k < call.count; k++) {
                tty.show(call.byteAt(k));
            }
            return call.count;
        }
        int i = value / 2 - 1;
        if (i < 0 || i >= PIPES) {
            return NOTHING;
        }
        if (!isOpen(READING + 2 * i)) {
            return NO_READER;
        }
        if (pipes[i].room() < call.count) {
            return NOT_DONE;
        }
        for (int k = 0; k < call.count; k++) {
            pipes[i].add(call.byteAt(k));
        }
        return call.count;
    }

    private int attemptReap(Task task) {
        boolean hasChild = false;
        Task halted = null;
        for (int i = 0; i < TASKS; i++) {
            Task child = tasks[i];
            if (child.state == FREE || child.parent != task.number) {
                continue;
            }
            hasChild = true;
            if (child.state == ZOMBIE) {
                child.state = FREE;
                return i + 8 * child.status;
            }
            if (halted == null && child.state == STOPPED && !child.stopTold) {
                halted = child;
            }
        }
        if (halted != null && task.call.alsoStopped) {
            halted.stopTold = true;
            return halted.number + 8 * STOPPED_STATUS;
        }
        return hasChild ? NOT_DONE : NO_CHILD;
    }

    /** A process; the name keeps apart from java.lang.Process. */
    private static final class Task {
        final int number;
        final int[] files = new int[FILES];
        final int[] actions = new int[CHILD + 1];
        final int[] takenRow = new int[MOST_BYTES];
        final int[] heardRow = new int[HEARD_KEPT];
        final Call call = new Call();
        int state = FREE;
        int parent = -1;
        int group = 0;
        int mask = 0;
        int pending = 0;
        int outcome = 0;
        int takenCount = 0;
        int heardEver = 0;
        int status = 0;
        boolean stopTold = false;

        Task(int number) {
            this.number = number;
        }

        void startFrom(Task maker) {
            for (int k = 0; k < FILES; k++) {
                files[k] = maker.files[k];
            }
            for (int s = INT; s <= CHILD; s++) {
                actions[s] = maker.actions[s];
            }
            state = READY;
            parent = maker.number;
            group = maker.group;
            mask = maker.mask;
            pending = 0;
            outcome = 0;
            takenCount = 0;
            heardEver = 0;
        }

        /** What every end does to the task itself; whether it stays as a zombie is its parent's matter. */
        void leave(int withStatus) {
            for (int k = 0; k < FILES; k++) {
                files[k] = NO_FILE;
            }
            call.kind = NO_CALL;
            pending = 0;
            status = withStatus;
        }

        boolean isAlive() {
            return state != FREE && state != ZOMBIE;
        }

        int fileValue(int file) {
            return file >= 0 && file < FILES ? files[file] : NO_FILE;
        }

        int leastUnusedFile(int from) {
            for (int k = from; k < FILES; k++) {
                if (files[k] == NO_FILE) {
                    return k;
                }
            }
            return FILES;
        }

        boolean isMasked(int s) {
            return (mask & (1 << s)) != 0;
        }

        boolean isDue(int s) {
            return (pending & (1 << s)) != 0 && !isMasked(s);
        }

        void forget(int s) {
            pending &= ~(1 << s);
        }

        /** A signal comes: what it does before anything is delivered. */
        void admit(int s) {
            if (s == CONT) {
                forget(STOP);
                forget(INPUT);
                if (state == STOPPED) {
                    state = call.kind == NO_CALL ? READY : BLOCKED;
                }
            } else if (s == STOP || s == INPUT) {
                forget(CONT);
            }
            if (s >= INT && s <= CHILD && staysPending(s)) {
                pending |= 1 << s;
            }
        }

        boolean staysPending(int s) {
            return actions[s] == CATCH || (actions[s] == DEFAULT && s <= INPUT);
        }

        void hear(int s) {
            heardRow[heardEver % HEARD_KEPT] = s;
            heardEver++;
            if (state == BLOCKED) {
                unblock(INTERRUPTED);
            }
        }

        void block(int order) {
            state = BLOCKED;
            outcome = NOT_DONE;
            call.order = order;
        }

        void unblock(int answer) {
            state = READY;
            outcome = answer;
            call.kind = NO_CALL;
        }
    }

    /** What a task asks for, kept while it is not done. */
    private static final class Call {
        int kind = NO_CALL;
        int file = 0;
        int count = 0;
        long bytes = 0L;
        boolean alsoStopped = false;
        /** The how manieth call that blocked it is. */
        int order = 0;

        void prepareTransfer(int newKind, int newFile, int newCount, long newBytes) {
            kind = newKind;
            file = newFile;
            count = newCount;
            bytes = newBytes;
        }

        int byteAt(int k) {
            return (int) (bytes >>> (8 * k)) & 255;
        }
    }

    /** Bytes in order, up to a fixed number of them. */
    private static final class ByteRow {
        final int[] cells;
        int size = 0;

        ByteRow(int most) {
            cells = new int[most];
        }

        int room() {
            return cells.length - size;
        }

        void add(int value) {
            if (size < cells.length) {
                cells[size] = value;
                size++;
            }
        }

        /** Moves the first ones, up to count of them, into target: how many. */
        int moveFirst(int count, int[] target) {
            int moved = Math.min(Math.min(count, size), target.length);
            for (int k = 0; k < moved; k++) {
                target[k] = cells[k];
            }
            for (int k = moved; k < size; k++) {
                cells[k - moved] = cells[k];
            }
            size -= moved;
            return moved;
        }
    }

    private static final class Terminal {
        /** The ready lines one behind the other, and the line that is written behind them. */
        final ByteRow characters = new ByteRow(LINE_ROOM);
        final int[] readyLengths = new int[MOST_LINES];
        final int[] screen = new int[SCREEN_KEPT];
        int readyLines = 0;
        int lineLength = 0;
        int foregroundGroup = 0;
        int writtenEver = 0;

        void show(int value) {
            screen[writtenEver % SCREEN_KEPT] = value;
            writtenEver++;
        }

        void press(int c) {
            if (c == KEY_BACK) {
                dropFromLine(Math.min(1, lineLength));
            } else if (c == KEY_ERASE) {
                dropFromLine(lineLength);
            } else if (c == KEY_END) {
                finishLine();
            } else if (c == KEY_LINE) {
                if (readyLines < MOST_LINES && characters.room() > 0) {
                    addToLine(c);
                    finishLine();
                }
            } else if (c >= 32 && c <= 126) {
                addToLine(c);
            }
        }

        void addToLine(int c) {
            if (characters.room() > 0) {
                characters.add(c);
                lineLength++;
            }
        }

        void dropFromLine(int count) {
            characters.size -= count;
            lineLength -= count;
        }

        void finishLine() {
            if (readyLines < MOST_LINES) {
                readyLengths[readyLines] = lineLength;
                readyLines++;
                lineLength = 0;
            }
        }

        void dropAllLines() {
            characters.size = 0;
            readyLines = 0;
            lineLength = 0;
        }

        /** An empty line, which has no last character, is gone with the read that finds it. */
        int moveFromFirstLine(int count, int[] target) {
            int moved = characters.moveFirst(Math.min(count, readyLengths[0]), target);
            readyLengths[0] -= moved;
            if (readyLengths[0] == 0) {
                dropFirstLine();
            }
            return moved;
        }

        void dropFirstLine() {
            for (int i = 1; i < readyLines; i++) {
                readyLengths[i - 1] = readyLengths[i];
            }
            readyLines--;
        }
    }
}

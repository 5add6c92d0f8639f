import static java.lang.Integer.MAX_VALUE;
import static java.lang.Integer.MIN_VALUE;

/** Promises 1 to 20, each with ordinary inputs, the edges that the document names, and wrong inputs. */
public final class PromisesTest {
    private static final int FREE = -1;
    private static final int READY = 1;
    private static final int BLOCKED = 2;
    private static final int STOPPED = 3;
    private static final int ZOMBIE = 4;

    public static void main(String[] args) {
        promise1NewObject();
        promise2KeyEdits();
        promise2KeyLimits();
        promise2KeySignals();
        promise3Fork();
        promise4End();
        promise5Pipe();
        promise6Copy();
        promise7Close();
        promise8ReadPipe();
        promise8And9PipesApart();
        promise8ReadTerminal();
        promise8ReadInBackground();
        promise9WritePipe();
        promise9WriteTerminal();
        promise10Reap();
        promise10ReapStopped();
        promise11Pause();
        promise12Signal();
        promise13Action();
        promise14Mask();
        promise15Group();
        promise16Foreground();
        promise17Process();
        promise18Taken();
        promise19Heard();
        promise20Terminal();
        Check.finish();
    }

    private static void due(String call, long got, long want) {
        Check.due(call, got, want);
    }

    /** Process 1 in a group of its own, which is the foreground. */
    private static JobLayer withForegroundJob() {
        JobLayer x = new JobLayer();
        x.fork(0);
        x.group(0, 1, 1);
        x.foreground(0, 1);
        return x;
    }

    private static void type(JobLayer x, String keys) {
        for (int i = 0; i < keys.length(); i++) {
            x.key(keys.charAt(i));
        }
    }

    private static void promise1NewObject() {
        JobLayer x = new JobLayer();
        int[] want = {READY, -1, 0, 0, 0, 0, 0, 0, -1, -1, 1, 1, 0, 0, 0, 0, -1};
        for (int what = 0; what < want.length; what++) {
            due("1: process(0, " + what + ")", x.process(0, what), want[what]);
        }
        for (int s = 1; s <= 7; s++) {
            due("1: action for " + s, x.process(0, 20 + s), 0);
        }
        for (int p = 1; p <= 7; p++) {
            due("1: process(" + p + ", 0)", x.process(p, 0), FREE);
        }
        for (int k = -5; k <= 0; k++) {
            due("1: terminal(" + k + ")", x.terminal(k), k == 0 ? -1 : 0);
        }
        JobLayer other = new JobLayer();
        x.fork(0);
        due("1: objects are apart", other.process(1, 0), FREE);
    }

    private static void promise2KeyEdits() {
        JobLayer x = new JobLayer();
        x.key(8);
        x.key(21);
        due("2: nothing to take back", x.terminal(-2), 0);
        type(x, "ab");
        x.key(8);
        type(x, "c");
        due("2: characters of the line", x.terminal(-2), 2);
        due("2: no line is ready", x.terminal(-3), 0);
        x.key(10);
        due("2: characters with the 10", x.terminal(-2), 3);
        due("2: a line is ready", x.terminal(-3), 1);
        x.key(8);
        x.key(21);
        due("2: a ready line is not edited", x.terminal(-2), 3);
        type(x, "xyz");
        x.key(21);
        due("2: 21 takes the line alone", x.terminal(-2), 3);
        x.key(4);
        due("2: an empty line is ready", x.terminal(-3), 2);
        type(x, "q");
        x.key(4);
        due("2: 4 puts no character", x.terminal(-2), 4);
        due("2: 4 makes the line ready", x.terminal(-3), 3);
        due("2: read first line", x.read(0, 0, 8), 3);
        due("2: taken 0", x.taken(0, 0), 'a');
        due("2: taken 1", x.taken(0, 1), 'c');
        due("2: taken 2", x.taken(0, 2), 10);
        due("2: end of input", x.read(0, 0, 8), 0);
        due("2: taken by that", x.process(0, 6), 0);
        due("2: read last line", x.read(0, 0, 8), 1);
        due("2: taken of it", x.taken(0, 0), 'q');
        for (int c : new int[] {-1, 0, 1, 2, 5, 7, 9, 11, 13, 27, 31, 127, 128, 256 + 97, MAX_VALUE, MIN_VALUE}) {
            x.key(c);
            due("2: key " + c + " does nothing", x.terminal(-2) + 100 * x.terminal(-3), 0);
        }
        x.key(32);
        x.key(126);
        due("2: 32 and 126 are put", x.terminal(-2), 2);
    }

    private static void promise2KeyLimits() {
        JobLayer x = new JobLayer();
        type(x, "0123456789");
        x.key(10);
        type(x, "0123456789abc");
        due("2: 24 characters", x.terminal(-2), 24);
        type(x, "d");
        due("2: one beyond is lost", x.terminal(-2), 24);
        x.key(10);
        due("2: a 10 beyond is lost", x.terminal(-3), 1);
        x.key(8);
        x.key(10);
        due("2: with room it is ready", x.terminal(-3), 2);
        due("2: again 24 characters", x.terminal(-2), 24);
        x.key(4);
        due("2: 4 needs no room", x.terminal(-3), 3);
        due("2: reading makes room", x.read(0, 0, 2), 2);
        type(x, "uvw");
        due("2: two more, one lost", x.terminal(-2), 24);
        x.key(4);
        int[] lengths = {8, 1, 8, 5, 0, 2};
        for (int i = 0; i < lengths.length; i++) {
            due("2: what is left, read " + i, x.read(0, 0, 8), lengths[i]);
        }
        due("2: the last is v", x.taken(0, 1), 'v');
        due("2: all lines are gone", x.terminal(-2) + x.terminal(-3), 0);

        JobLayer y = new JobLayer();
        for (int i = 0; i < 8; i++) {
            y.key(4);
        }
        type(y, "ab");
        y.key(10);
        y.key(4);
        due("2: no ninth line", y.terminal(-3), 8);
        due("2: the lost 10 is not put", y.terminal(-2), 2);
        due("2: read the first of eight", y.read(0, 0, 1), 0);
        due("2: seven are left", y.terminal(-3), 7);
        y.key(10);
        due("2: the line is ready as the eighth", y.terminal(-3), 8);
        due("2: with its 10", y.terminal(-2), 3);
    }

    private static void promise2KeySignals() {
        for (int c : new int[] {3, 26}) {
            int s = c == 3 ? 1 : 4;
            JobLayer x = withForegroundJob();
            x.fork(1);
            x.fork(0);
            for (int p : new int[] {0, 1, 3}) {
                x.action(p, s, 2);
            }
            type(x, "ab");
            x.key(10);
            type(x, "c");
            x.key(c);
            due("2: lines are gone by " + c, x.terminal(-2) + 100 * x.terminal(-3), 0);
            due("2: heard in the foreground", x.heard(1, 0), s);
            due("2: not heard by 0", x.process(0, 7), 0);
            due("2: not heard by 3", x.process(3, 7), 0);
            x.key(8);
            due("2: no line to take back from", x.terminal(-2), 0);
            due("2: 2 ended or stopped", x.process(2, 0), c == 3 ? ZOMBIE : STOPPED);
            due("2: status of 2", x.process(2, 8), c == 3 ? 65 : -1);
            type(x, "d");
            x.key(10);
            due("2: a line after that", x.read(1, 0, 8), 2);
        }
        JobLayer x = withForegroundJob();
        x.end(1, 0);
        x.key(3);
        x.key(26);
        due("2: nobody in the foreground", x.process(0, 0), READY);
    }

    private static void promise3Fork() {
        JobLayer x = new JobLayer();
        x.pipe(0);
        x.action(0, 3, 2);
        x.action(0, 1, 1);
        x.action(0, 7, 2);
        x.mask(0, 1 << 6 | 1 << 3);
        x.signal(0, 0, 3);
        x.action(0, 2, 2);
        x.signal(0, 0, 2);
        x.write(0, 3, 7, 2);
        x.read(0, 2, 1);
        due("3: fork(0)", x.fork(0), 1);
        int[] want = {READY, 0, 0, 72, 0, 0, 0, 0, -1, -1, 1, 1, 2, 3, 0, 0};
        for (int what = 0; what < want.length; what++) {
            due("3: process(1, " + what + ")", x.process(1, what), want[what]);
        }
        due("3: action 1 as p's", x.process(1, 21), 1);
        due("3: action 2 as p's", x.process(1, 22), 2);
        due("3: action 3 as p's", x.process(1, 23), 2);
        due("3: action 4 as p's", x.process(1, 24), 0);
        due("3: action 7 as p's", x.process(1, 27), 2);
        due("3: nothing taken", x.taken(1, 0), -1);
        due("3: nothing heard", x.heard(1, 0), -1);
        due("3: p keeps what is pending", x.process(0, 4), 8);
        x.action(1, 4, 2);
        x.mask(1, 2);
        x.close(1, 2);
        due("3: the child's action is its own", x.process(0, 24), 0);
        due("3: its mask too", x.process(0, 3), 72);
        due("3: and its files", x.process(0, 12), 2);
        x.group(1, 1, 1);
        due("3: fork(1)", x.fork(1), 2);
        due("3: its parent", x.process(2, 1), 1);
        due("3: its group", x.process(2, 2), 1);
        for (int i = 3; i <= 7; i++) {
            due("3: fork", x.fork(0), i);
        }
        due("3: none is free", x.fork(0), -2);
        due("3: none is free for another", x.fork(7), -2);
        x.end(4, 0);
        due("3: a zombie is not free", x.fork(0), -2);
        Check.illegalState("3: of a zombie", () -> x.fork(4));
        x.reap(0, false);
        Check.illegalState("3: of a free one", () -> x.fork(4));
        due("3: the least free", x.fork(0), 4);
        Check.illegalState("3: no process -1", () -> x.fork(-1));
        Check.illegalState("3: no process 8", () -> x.fork(8));
        x.pause(4);
        Check.illegalState("3: of a blocked one", () -> x.fork(4));

        JobLayer y = new JobLayer();
        y.fork(0);
        y.action(1, 3, 2);
        y.write(1, 1, 9, 1);
        y.pipe(1);
        y.write(1, 3, 9, 3);
        y.read(1, 2, 3);
        y.pause(1);
        y.signal(0, 1, 3);
        due("3: outcome before", y.process(1, 5), -4);
        y.end(1, 5);
        y.reap(0, false);
        due("3: the number again", y.fork(0), 1);
        due("3: outcome 0 again", y.process(1, 5), 0);
        due("3: none taken again", y.process(1, 6), 0);
        due("3: none taken again", y.taken(1, 0), -1);
        due("3: none heard again", y.process(1, 7), 0);
        due("3: none heard again", y.heard(1, 0), -1);
        due("3: action of the new parent", y.process(1, 23), 0);
        due("3: no status", y.process(1, 8), -1);
        y.group(0, 1, 1);
        y.pause(1);
        y.signal(0, 1, 8);
        y.reap(0, false);
        y.fork(0);
        y.group(0, 1, 1);
        y.signal(0, 1, 4);
        y.signal(0, 1, 6);
        due("3: the call of the one before is none of its own", y.process(1, 0), READY);
    }

    private static void promise4End() {
        JobLayer x = new JobLayer();
        due("4: process 0", x.end(0, 3), -7);
        due("4: it goes on", x.process(0, 0), READY);
        x.pipe(0);
        x.fork(0);
        x.fork(1);
        x.fork(1);
        x.end(3, -1);
        due("4: lowest 6 bits of -1", x.process(3, 8), 63);
        x.mask(1, 8);
        x.signal(0, 1, 3);
        due("4: end(1, 64 + 7)", x.end(1, 71), 0);
        due("4: a zombie", x.process(1, 0), ZOMBIE);
        due("4: its status", x.process(1, 8), 7);
        due("4: nothing pending", x.process(1, 4), 0);
        for (int k = 10; k <= 15; k++) {
            due("4: its files are closed", x.process(1, k), 0);
        }
        due("4: a child of process 0 now", x.process(2, 1), 0);
        due("4: a zombie too", x.process(3, 1), 0);
        Check.illegalState("4: a zombie ends not", () -> x.end(1, 0));
        Check.illegalState("4: nor what is free", () -> x.end(7, 0));
        Check.illegalState("4: nor what is no process", () -> x.end(8, 0));
        due("4: reap the least", x.reap(0, false), 1 + 8 * 7);
        due("4: reap the other", x.reap(0, false), 3 + 8 * 63);

        JobLayer y = new JobLayer();
        y.action(0, 7, 2);
        y.fork(0);
        y.end(1, 0);
        due("4: CHILD comes to the parent", y.heard(0, 0), 7);
        due("4: one CHILD", y.process(0, 7), 1);
        y.action(0, 7, 1);
        y.fork(0);
        y.end(2, 0);
        due("4: free at once", y.process(2, 0), FREE);
        due("4: no CHILD", y.process(0, 7), 1);
        due("4: the zombie from before stays", y.process(1, 0), ZOMBIE);
    }

    private static void promise5Pipe() {
        JobLayer x = new JobLayer();
        due("5: files 2 and 3", x.pipe(0), 2 + 8 * 3);
        due("5: a reading end", x.process(0, 12), 2);
        due("5: a writing end", x.process(0, 13), 3);
        x.close(0, 0);
        due("5: files 0 and 4", x.pipe(0), 8 * 4);
        due("5: one file left", x.pipe(0), -2);
        due("5: it stays none", x.process(0, 15), 0);
        x.copy(0, 0, 5);
        due("5: no file left", x.pipe(0), -2);
        due("5: two pipes", x.terminal(-5), 2);

        JobLayer y = new JobLayer();
        for (int i = 0; i < 3; i++) {
            y.fork(0);
            y.pipe(i + 1);
            y.pipe(i + 1);
        }
        due("5: six pipes", y.terminal(-5), 6);
        due("5: no seventh", y.pipe(0), -2);
        due("5: no file for it", y.process(0, 12), 0);
        y.write(2, 3, 5, 1);
        y.close(2, 2);
        due("5: a pipe with one end", y.terminal(-5), 6);
        y.close(2, 3);
        due("5: a pipe is gone", y.terminal(-5), 5);
        due("5: a sixth again", y.pipe(0), 26);
        due("5: it is empty", y.read(0, 2, 1), -9);
        Check.illegalState("5: not READY", () -> y.pipe(0));
        Check.illegalState("5: no process", () -> y.pipe(-1));

        JobLayer z = new JobLayer();
        z.fork(0);
        z.pipe(1);
        z.end(1, 0);
        due("5: gone with the process", z.terminal(-5), 0);
    }

    private static void promise6Copy() {
        JobLayer x = new JobLayer();
        x.pipe(0);
        due("6: to a file that is none", x.copy(0, 3, 5), 5);
        due("6: it is a writing end", x.process(0, 15), 3);
        due("6: the first stays", x.process(0, 13), 3);
        x.close(0, 3);
        due("6: one pipe by the copy", x.write(0, 5, 65, 1), 1);
        due("6: of the same pipe", x.read(0, 2, 1), 1);
        due("6: on itself", x.copy(0, 2, 2), 2);
        due("6: it is what it was", x.process(0, 12), 2);
        due("6: to a file that is open", x.copy(0, 0, 2), 2);
        due("6: the reading end was closed by that", x.write(0, 5, 1, 1), -6);
        due("6: to file 0", x.copy(0, 5, 0), 0);
        due("6: it is a writing end", x.process(0, 10), 3);
        due("6: back", x.copy(0, 1, 0), 0);
        due("6: last end", x.copy(0, 0, 5), 5);
        due("6: the pipe is gone", x.terminal(-5), 0);
        due("6: from none", x.copy(0, 4, 0), -1);
        due("6: to stays", x.process(0, 10), 1);
        for (int bad : new int[] {-1, 6, MIN_VALUE, MAX_VALUE}) {
            due("6: from no file", x.copy(0, bad, 0), -1);
            due("6: to no file", x.copy(0, 0, bad), -1);
        }
        Check.illegalState("6: free", () -> x.copy(1, 0, 1));
        Check.illegalState("6: no process", () -> x.copy(8, 0, 1));
        x.pause(0);
        Check.illegalState("6: blocked", () -> x.copy(0, 9, 9));

        JobLayer y = new JobLayer();
        y.pipe(0);
        y.fork(0);
        y.close(1, 3);
        y.read(1, 2, 1);
        y.copy(0, 1, 3);
        due("6: the last writing end was closed by that", y.process(1, 5), 0);
    }

    private static void promise7Close() {
        JobLayer x = new JobLayer();
        due("7: close", x.close(0, 0), 0);
        due("7: it is none", x.process(0, 10), 0);
        due("7: file 1 stays", x.process(0, 11), 1);
        due("7: none before", x.close(0, 0), -1);
        for (int bad : new int[] {-1, 6, MIN_VALUE, MAX_VALUE}) {
            due("7: no file", x.close(0, bad), -1);
        }
        Check.illegalState("7: free", () -> x.close(1, 0));
        Check.illegalState("7: no process", () -> x.close(-1, 0));
        x.pause(0);
        Check.illegalState("7: blocked", () -> x.close(0, 1));
    }

    private static void promise8ReadPipe() {
        JobLayer x = new JobLayer();
        x.pipe(0);
        x.write(0, 3, 0x8877665544332211L, 8);
        due("8: the first three", x.read(0, 2, 3), 3);
        due("8: of them 0", x.taken(0, 0), 0x11);
        due("8: of them 2", x.taken(0, 2), 0x33);
        due("8: fewer than 8", x.read(0, 2, 8), 5);
        due("8: of them 0", x.taken(0, 0), 0x44);
        due("8: of them 4", x.taken(0, 4), 0x88);
        due("8: no outcome of calls done at once", x.process(0, 5), 0);
        due("8: a writing end", x.read(0, 3, 1), -1);
        due("8: none", x.read(0, 4, 1), -1);
        due("8: no file", x.read(0, 6, 1), -1);
        due("8: no file", x.read(0, -1, 1), -1);
        due("8: taken stays", x.process(0, 6), 5);
        for (int bad : new int[] {0, 9, -1, MIN_VALUE, MAX_VALUE}) {
            Check.illegalArgument("8: n " + bad, () -> x.read(0, 2, bad));
            Check.illegalArgument("8: n before -1, " + bad, () -> x.read(0, 5, bad));
            Check.illegalState("8: the process before n " + bad, () -> x.read(1, 2, bad));
        }
        x.write(0, 3, 1, 1);
        x.close(0, 3);
        due("8: bytes without a writing end", x.read(0, 2, 2), 1);
        due("8: no byte, no writing end", x.read(0, 2, 2), 0);
        due("8: none taken by that", x.process(0, 6), 0);

        JobLayer y = new JobLayer();
        y.pipe(0);
        y.fork(0);
        due("8: empty", y.read(1, 2, 4), -9);
        due("8: blocked", y.process(1, 0), BLOCKED);
        due("8: outcome", y.process(1, 5), -9);
        Check.illegalState("8: blocked", () -> y.read(1, 2, 4));
        y.write(0, 3, 0x0605040302L, 5);
        due("8: ready", y.process(1, 0), READY);
        due("8: outcome", y.process(1, 5), 4);
        due("8: taken", y.taken(1, 3), 5);
        due("8: the rest", y.read(0, 2, 4), 1);
        y.close(1, 3);
        due("8: empty again", y.read(1, 2, 4), -9);
        y.close(0, 3);
        due("8: the last writing end goes", y.process(1, 5), 0);
        due("8: ready", y.process(1, 0), READY);
        due("8: none taken", y.process(1, 6), 0);
    }

    private static void promise8And9PipesApart() {
        JobLayer x = new JobLayer();
        x.close(0, 0);
        x.close(0, 1);
        due("5: pipe", x.pipe(0), 8);
        due("5: pipe", x.pipe(0), 2 + 8 * 3);
        due("5: pipe", x.pipe(0), 4 + 8 * 5);
        for (int i = 0; i < 3; i++) {
            due("9: into pipe " + i, x.write(0, 2 * i + 1, 100 + i, 1), 1);
        }
        for (int i = 2; i >= 0; i--) {
            due("8: out of pipe " + i, x.read(0, 2 * i, 8), 1);
            due("8: its byte", x.taken(0, 0), 100 + i);
        }
        x.fork(0);
        for (int i = 0; i < 3; i++) {
            x.close(1, 2 * i + 1);
            due("8: out of an empty pipe", x.read(1, 2 * i, 8), -9);
            x.close(0, 2 * i + 1);
            due("8: no file is its writing end", x.process(1, 5), 0);
            due("8: ready", x.process(1, 0), READY);
        }
        JobLayer y = new JobLayer();
        y.close(0, 0);
        y.close(0, 1);
        y.pipe(0);
        y.pipe(0);
        y.pipe(0);
        for (int i = 2; i >= 0; i--) {
            y.close(0, 2 * i);
            due("9: no file is its reading end", y.write(0, 2 * i + 1, 1, 1), -6);
            due("9: of another one is", i == 0 ? 1 : y.write(0, 1, 1, 1), 1);
        }
    }

    private static void promise8ReadTerminal() {
        JobLayer x = new JobLayer();
        type(x, "abc");
        x.fork(0);
        due("8: a line that isn't ready", x.read(1, 1, 2), -9);
        x.key(10);
        due("8: the first n", x.process(1, 5), 2);
        due("8: the rest is there", x.terminal(-2), 2);
        due("8: and ready", x.terminal(-3), 1);
        due("8: a line's last ones", x.read(0, 0, 2), 2);
        due("8: taken", x.taken(0, 0), 'c');
        due("8: taken", x.taken(0, 1), 10);
        due("8: the line is gone", x.terminal(-3), 0);
        x.key(4);
        type(x, "d");
        x.key(10);
        due("8: an empty line", x.read(0, 0, 8), 0);
        due("8: it is gone", x.terminal(-3), 1);
        type(x, "e");
        x.key(10);
        due("8: one line alone", x.read(0, 0, 8), 2);
        due("8: then the next", x.read(0, 0, 8), 2);
        due("8: its character", x.taken(0, 0), 'e');
    }

    private static void promise8ReadInBackground() {
        JobLayer x = withForegroundJob();
        due("8: process 0 in the background", x.read(0, 0, 1), -5);
        due("8: it is ready", x.process(0, 0), READY);
        due("8: no outcome", x.process(0, 5), 0);
        x.fork(0);
        due("8: an orphaned group", x.read(2, 0, 1), -5);
        x.group(0, 2, 2);
        x.fork(2);
        x.fork(0);
        x.group(0, 4, 2);
        x.action(2, 5, 1);
        due("8: INPUT ignored", x.read(2, 0, 1), -5);
        x.action(2, 5, 0);
        x.mask(2, 1 << 5);
        due("8: INPUT masked", x.read(2, 0, 1), -5);
        x.action(3, 5, 2);
        x.mask(2, 0);
        due("8: it draws INPUT", x.read(2, 0, 1), -9);
        due("8: it is stopped", x.process(2, 0), STOPPED);
        due("8: one of its group hears it", x.heard(3, 0), 5);
        due("8: another stops", x.process(4, 0), STOPPED);
        due("8: other groups don't", x.process(1, 0), READY);
        due("8: its outcome", x.process(2, 5), -9);
        due("8: one that catches INPUT", x.read(3, 0, 1), -9);
        due("8: is interrupted", x.process(3, 5), -4);
        due("8: and ready", x.process(3, 0), READY);
        due("8: a stopped one has INPUT pending", x.process(2, 4), 1 << 5);
        type(x, "a");
        x.key(10);
        x.signal(0, 2, 6);
        due("8: it draws INPUT again", x.process(2, 0), STOPPED);
        x.foreground(0, 2);
        x.signal(0, 2, 6);
        due("8: done in the foreground", x.process(2, 5), 1);
    }

    private static void promise9WritePipe() {
        JobLayer x = new JobLayer();
        x.pipe(0);
        due("9: eight", x.write(0, 3, -1L, 8), 8);
        due("9: the lowest three", x.write(0, 3, 0x04030201L, 3), 3);
        due("9: the twelfth", x.write(0, 3, 0x1FFL, 1), 1);
        x.fork(0);
        due("9: no room", x.write(1, 3, 0x0706L, 2), -9);
        due("9: blocked", x.process(1, 0), BLOCKED);
        due("9: outcome", x.process(1, 5), -9);
        due("9: one taken", x.read(0, 2, 1), 1);
        due("9: room for one is not enough", x.process(1, 0), BLOCKED);
        due("9: another taken", x.read(0, 2, 1), 1);
        due("9: done", x.process(1, 5), 2);
        due("9: ready", x.process(1, 0), READY);
        due("9: six of eight", x.read(0, 2, 6), 6);
        due("9: unsigned", x.taken(0, 5), 255);
        due("9: the rest", x.read(0, 2, 8), 6);
        int[] want = {1, 2, 3, 255, 6, 7};
        for (int k = 0; k < want.length; k++) {
            due("9: in order " + k, x.taken(0, k), want[k]);
        }
        due("9: a reading end", x.write(0, 2, 1, 1), -1);
        due("9: none", x.write(0, 4, 1, 1), -1);
        due("9: no file", x.write(0, -1, 1, 1), -1);
        due("9: no file", x.write(0, 6, 1, 1), -1);
        for (int bad : new int[] {0, 9, -1, MIN_VALUE, MAX_VALUE}) {
            Check.illegalArgument("9: n " + bad, () -> x.write(0, 3, 1, bad));
            Check.illegalArgument("9: n before -1, " + bad, () -> x.write(0, 2, 1, bad));
            Check.illegalState("9: the process before n " + bad, () -> x.write(7, 3, 1, bad));
        }

        JobLayer y = new JobLayer();
        y.pipe(0);
        y.fork(0);
        y.fork(0);
        y.action(1, 2, 2);
        y.close(1, 2);
        y.close(2, 2);
        y.write(0, 3, 1, 8);
        y.write(1, 3, 1, 5);
        y.write(2, 3, 1, 5);
        y.close(0, 2);
        due("9: the last reading end goes", y.process(1, 5), -6);
        due("9: then PIPE comes", y.heard(1, 0), 2);
        due("9: it is ready", y.process(1, 0), READY);
        due("9: PIPE ends another", y.process(2, 8), 66);
        due("9: process 0 at once", y.write(0, 3, 1, 1), -6);
        due("9: it goes on", y.process(0, 0), READY);
        due("9: no outcome of that", y.process(0, 5), 0);
        y.action(1, 2, 0);
        due("9: an ending write answers", y.write(1, 3, 1, 1), -6);
        due("9: it has ended", y.process(1, 8), 66);
    }

    private static void promise9WriteTerminal() {
        JobLayer x = withForegroundJob();
        due("9: in the background too", x.write(0, 0, 0x434241L, 3), 3);
        due("9: the latest", x.terminal(0), 'C');
        due("9: the one before", x.terminal(1), 'B');
        due("9: the first", x.terminal(2), 'A');
        due("9: none before", x.terminal(3), -1);
        due("9: it is not read", x.terminal(-2), 0);
        due("9: from another", x.write(1, 1, 0xFFFFL, 8), 8);
        due("9: the highest byte is the latest", x.terminal(0), 0);
        due("9: the lowest first", x.terminal(7), 255);
        due("9: unsigned", x.terminal(6), 255);
        due("9: in all", x.terminal(-4), 11);
    }

    private static void promise10Reap() {
        JobLayer x = new JobLayer();
        due("10: no child", x.reap(0, false), -3);
        due("10: no child", x.reap(0, true), -3);
        x.fork(0);
        x.fork(0);
        x.fork(1);
        due("10: a child's child is no child", x.reap(2, false), -3);
        x.end(3, 9);
        due("10: not of process 0", x.reap(0, false), -9);
        due("10: blocked", x.process(0, 0), BLOCKED);
        due("10: its own", x.reap(1, false), 3 + 8 * 9);
        due("10: free", x.process(3, 0), FREE);
        due("10: no child left", x.reap(1, true), -3);
        x.end(2, 1);
        due("10: done", x.process(0, 5), 2 + 8);
        due("10: ready", x.process(0, 0), READY);
        due("10: free", x.process(2, 0), FREE);
        x.fork(0);
        x.fork(0);
        x.fork(0);
        x.end(4, 4);
        x.end(3, 3);
        due("10: the least", x.reap(0, true), 3 + 8 * 3);
        due("10: the other", x.reap(0, true), 4 + 8 * 4);
        x.signal(0, 1, 8);
        due("10: by a signal", x.reap(0, false), 1 + 8 * 72);
        Check.illegalState("10: free", () -> x.reap(1, false));
        Check.illegalState("10: no process", () -> x.reap(-1, true));
        x.reap(0, false);
        Check.illegalState("10: blocked", () -> x.reap(0, false));

        JobLayer y = new JobLayer();
        y.fork(0);
        y.fork(1);
        y.end(2, 5);
        y.reap(0, false);
        y.end(1, 6);
        due("10: the ended child first", y.process(0, 5), 1 + 8 * 6);
        due("10: then the one it left", y.reap(0, false), 2 + 8 * 5);

        JobLayer z = new JobLayer();
        z.fork(0);
        z.action(0, 7, 1);
        z.reap(0, false);
        z.end(1, 0);
        due("10: no child any more", z.process(0, 5), -3);
    }

    private static void promise10ReapStopped() {
        JobLayer x = new JobLayer();
        for (int i = 1; i <= 3; i++) {
            x.fork(0);
            x.group(0, i, i);
        }
        x.signal(0, 2, 4);
        x.signal(0, 1, 4);
        x.end(3, 2);
        due("10: zombies first", x.reap(0, true), 3 + 8 * 2);
        due("10: the least stopped", x.reap(0, true), 1 + 8 * 128);
        due("10: it stays stopped", x.process(1, 0), STOPPED);
        due("10: the other", x.reap(0, true), 2 + 8 * 128);
        x.signal(0, 1, 6);
        x.signal(0, 1, 4);
        due("10: stopped anew", x.reap(0, true), 1 + 8 * 128);
        x.signal(0, 1, 4);
        due("10: each is told once", x.reap(0, true), -9);

        JobLayer y = new JobLayer();
        y.fork(0);
        y.fork(0);
        y.fork(0);
        y.group(0, 1, 1);
        y.group(0, 2, 2);
        y.reap(0, true);
        y.signal(3, 1, 4);
        due("10: done when one stops", y.process(0, 5), 1 + 8 * 128);
        y.reap(0, false);
        y.signal(3, 2, 4);
        due("10: not asked for", y.process(0, 0), BLOCKED);
        y.signal(3, 2, 8);
        due("10: done when one ends", y.process(0, 5), 2 + 8 * 72);
    }

    private static void promise11Pause() {
        JobLayer x = new JobLayer();
        x.fork(0);
        x.action(1, 3, 2);
        x.action(1, 1, 1);
        due("11: pause", x.pause(1), -9);
        due("11: blocked", x.process(1, 0), BLOCKED);
        due("11: outcome", x.process(1, 5), -9);
        x.signal(0, 1, 1);
        x.signal(0, 1, 6);
        x.signal(0, 1, 7);
        x.signal(0, 1, 4);
        x.key(10);
        due("11: only interrupted", x.process(1, 0), BLOCKED);
        Check.illegalState("11: blocked", () -> x.pause(1));
        x.signal(0, 1, 3);
        due("11: ready", x.process(1, 0), READY);
        due("11: outcome", x.process(1, 5), -4);
        due("11: process 0 too", x.pause(0), -9);
        due("11: outcome", x.process(0, 5), -9);
        Check.illegalState("11: free", () -> x.pause(2));
        Check.illegalState("11: no process", () -> x.pause(8));
    }

    private static void promise12Signal() {
        JobLayer x = new JobLayer();
        for (int p = 1; p <= 4; p++) {
            x.fork(0);
            for (int s = 1; s <= 7; s++) {
                x.action(p, s, 2);
            }
        }
        x.group(0, 3, 3);
        x.group(0, 4, 3);
        for (int s = 1; s <= 7; s++) {
            due("12: to a process", x.signal(2, 1, s), 0);
            due("12: heard", x.heard(1, 0), s);
        }
        due("12: not by others", x.process(2, 7) + x.process(3, 7), 0);
        due("12: to oneself", x.signal(2, 2, 3), 0);
        due("12: heard", x.heard(2, 0), 3);
        due("12: to a group", x.signal(2, -4, 1), 0);
        due("12: heard by 3", x.heard(3, 0), 1);
        due("12: heard by 4", x.heard(4, 0), 1);
        due("12: not by others", x.process(1, 7), 7);
        due("12: to group 0", x.signal(3, -1, 1), 0);
        due("12: heard by 1", x.process(1, 7), 8);
        due("12: not by 3", x.process(3, 7), 1);
        x.action(0, 3, 2);
        due("12: to group 0", x.signal(0, -1, 3), 0);
        due("12: heard by process 0", x.heard(0, 0), 3);
        due("12: to a free one", x.signal(0, 7, 1), -8);
        due("12: to a group that is none", x.signal(0, -3, 1), -8);
        due("12: to the last group", x.signal(0, -8, 1), -8);
        due("12: KILL", x.signal(0, 1, 8), 0);
        due("12: ended", x.process(1, 8), 72);
        due("12: to a zombie", x.signal(0, 1, 1), -8);
        due("12: KILL to a group", x.signal(0, -4, 8), 0);
        due("12: 3 ended", x.process(3, 0), ZOMBIE);
        due("12: 4 ended", x.process(4, 0), ZOMBIE);
        due("12: to a group of zombies", x.signal(0, -4, 8), -8);
        due("12: KILL to process 0", x.signal(0, 0, 8), 0);
        due("12: does nothing", x.process(0, 0), READY);
        due("12: not pending", x.process(0, 4), 0);
        due("12: one that ends itself", x.signal(2, 2, 8), 0);
        due("12: ended", x.process(2, 0), ZOMBIE);
        for (int bad : new int[] {0, 9, -1, MIN_VALUE, MAX_VALUE}) {
            Check.illegalArgument("12: s " + bad, () -> x.signal(0, 0, bad));
            Check.illegalArgument("12: s before -8, " + bad, () -> x.signal(0, 7, bad));
            Check.illegalState("12: the process before s " + bad, () -> x.signal(7, 0, bad));
        }
        for (int bad : new int[] {-9, 8, MIN_VALUE, MAX_VALUE}) {
            Check.illegalArgument("12: to " + bad, () -> x.signal(0, bad, 1));
            Check.illegalState("12: the process before to " + bad, () -> x.signal(-1, bad, 1));
        }
    }

    private static void promise13Action() {
        JobLayer x = new JobLayer();
        x.mask(0, 0xFF);
        for (int s = 1; s <= 7; s++) {
            due("13: was default", x.action(0, s, 2), 0);
            x.signal(0, 0, s);
        }
        // STOP and INPUT are taken away by CONT, which came behind them.
        due("13: pending", x.process(0, 4), 0xCE);
        due("13: was catch", x.action(0, 1, 0), 2);
        due("13: DEFAULT keeps it pending", x.process(0, 4), 0xCE);
        due("13: was default", x.action(0, 1, 1), 0);
        due("13: IGNORE does not", x.process(0, 4), 0xCC);
        due("13: was ignore", x.action(0, 1, 2), 1);
        due("13: it does not come back", x.process(0, 4), 0xCC);
        due("13: what it is", x.process(0, 21), 2);
        for (int bad : new int[] {0, 8, -1, 9, MIN_VALUE, MAX_VALUE}) {
            Check.illegalArgument("13: s " + bad, () -> x.action(0, bad, 0));
            Check.illegalState("13: the process before s " + bad, () -> x.action(1, bad, 0));
        }
        for (int bad : new int[] {-1, 3, MIN_VALUE, MAX_VALUE}) {
            Check.illegalArgument("13: how " + bad, () -> x.action(0, 1, bad));
            Check.illegalState("13: the process before how " + bad, () -> x.action(8, 1, bad));
        }
        x.pause(0);
        Check.illegalState("13: blocked", () -> x.action(0, 1, 0));
    }

    private static void promise14Mask() {
        JobLayer x = new JobLayer();
        due("14: at first", x.mask(0, -1), 0);
        due("14: bits 1 to 7", x.process(0, 3), 0xFE);
        due("14: what it was", x.mask(0, 0x101), 0xFE);
        due("14: no other bits", x.process(0, 3), 0);
        x.fork(0);
        x.action(1, 1, 2);
        x.action(1, 3, 2);
        x.action(1, 7, 2);
        x.mask(1, 0xFE);
        x.signal(0, 1, 7);
        x.signal(0, 1, 3);
        x.signal(0, 1, 1);
        x.signal(0, 1, 1);
        due("14: pending", x.process(1, 4), 0x8A);
        due("14: some are delivered", x.mask(1, 1 << 3), 0xFE);
        due("14: the other is pending", x.process(1, 4), 8);
        due("14: the least first", x.heard(1, 1), 1);
        due("14: then the next", x.heard(1, 0), 7);
        due("14: each once", x.process(1, 7), 2);
        x.signal(0, 1, 2);
        due("14: what is not in it comes through", x.process(1, 8), 66);
        x.fork(0);
        x.mask(2, 0xFE);
        x.signal(0, 2, 3);
        due("14: it waits", x.process(2, 0), READY);
        due("14: the answer of one that ends", x.mask(2, 0), 0xFE);
        due("14: it has ended", x.process(2, 8), 67);
        x.fork(0);
        x.mask(3, -1);
        x.signal(0, 3, 8);
        due("14: KILL is never masked", x.process(3, 8), 72);
        Check.illegalState("14: a zombie", () -> x.mask(3, 0));
        Check.illegalState("14: no process", () -> x.mask(-1, 0));

        JobLayer y = new JobLayer();
        y.action(0, 7, 2);
        y.pipe(0);
        y.fork(0);
        y.fork(0);
        y.group(0, 1, 1);
        y.close(0, 3);
        y.close(2, 3);
        y.read(2, 2, 1);
        y.mask(1, 1 << 4);
        y.signal(0, 1, 4);
        due("14: it stops by that", y.mask(1, 0) + 100 * y.process(1, 0), 16 + 300);
        due("14: CHILD comes to its parent", y.heard(0, 0), 7);
        y.signal(0, 1, 6);
        y.mask(1, 1 << 3);
        y.signal(0, 1, 3);
        due("14: it ends by that", y.mask(1, 0) + 100 * y.process(1, 0), 8 + 400);
        due("14: CHILD comes again", y.process(0, 7), 2);
        due("14: its files are closed for a reader", y.process(2, 5), 0);
    }

    private static void promise15Group() {
        JobLayer x = new JobLayer();
        x.fork(0);
        x.fork(1);
        x.fork(0);
        due("15: its own number", x.group(0, 1, 1), 0);
        due("15: it has it", x.process(1, 2), 1);
        due("15: a child's number is not its parent's to take", x.group(1, 1, 2), -7);
        due("15: of another process", x.group(0, 3, 1), 0);
        due("15: for oneself", x.group(3, 3, 3), 0);
        due("15: back to group 0", x.group(3, 3, 0), 0);
        due("15: of a child", x.group(1, 2, 1), 0);
        due("15: a child's child", x.group(0, 2, 2), -7);
        due("15: one's parent", x.group(2, 1, 1), -7);
        due("15: another's child", x.group(3, 1, 1), -7);
        due("15: process 0", x.group(0, 0, 0), -7);
        due("15: process 0 to another", x.group(0, 0, 1), -7);
        due("15: nobody's group", x.group(0, 1, 5), -7);
        due("15: it stays", x.process(1, 2), 1);
        for (int bad : new int[] {-1, 8, MIN_VALUE, MAX_VALUE}) {
            due("15: no group", x.group(0, 1, bad), -7);
            due("15: no process", x.group(0, bad, 0), -7);
        }
        due("15: free", x.group(0, 7, 7), -7);
        x.fork(0);
        x.group(0, 4, 4);
        x.end(4, 0);
        due("15: a zombie", x.group(0, 4, 0), -7);
        due("15: a zombie's group", x.group(0, 3, 4), -7);
        x.pause(3);
        due("15: a blocked child", x.group(0, 3, 3), 0);
        Check.illegalState("15: blocked", () -> x.group(3, 3, 3));
        Check.illegalState("15: no process", () -> x.group(8, 3, 3));
    }

    private static void promise16Foreground() {
        JobLayer x = new JobLayer();
        x.fork(0);
        x.fork(0);
        x.group(0, 1, 1);
        due("16: from the background", x.foreground(1, 1), -7);
        due("16: it stays", x.terminal(-1), 0);
        due("16: from the foreground", x.foreground(2, 1), 0);
        due("16: it is", x.terminal(-1), 1);
        due("16: from the background", x.foreground(2, 0), -7);
        due("16: to itself", x.foreground(1, 1), 0);
        due("16: process 0 from the background", x.foreground(0, 0), 0);
        due("16: nobody's group", x.foreground(0, 2), -7);
        for (int bad : new int[] {-1, 8, MIN_VALUE, MAX_VALUE}) {
            due("16: no group", x.foreground(0, bad), -7);
        }
        x.end(1, 0);
        due("16: a zombie's group", x.foreground(0, 1), -7);
        Check.illegalState("16: a zombie", () -> x.foreground(1, 0));
        Check.illegalState("16: no process", () -> x.foreground(-1, 0));
    }

    private static void promise17Process() {
        JobLayer x = new JobLayer();
        x.fork(0);
        x.group(0, 1, 1);
        x.pipe(1);
        x.close(1, 0);
        x.action(1, 7, 1);
        x.action(1, 1, 2);
        x.mask(1, 1 << 3);
        x.signal(0, 1, 3);
        x.signal(0, 1, 1);
        x.write(1, 3, 77, 2);
        x.read(1, 2, 8);
        x.pause(1);
        int[] want = {BLOCKED, 0, 1, 8, 8, -9, 2, 1, -1, -1, 0, 1, 2, 3, 0, 0, -1, -1, -1, -1, -1, 2, 0, 0, 0, 0, 0, 1};
        for (int what = 0; what < want.length; what++) {
            due("17: process(1, " + what + ")", x.process(1, what), want[what]);
        }
        x.signal(0, 1, 4);
        due("17: stopped", x.process(1, 0), STOPPED);
        due("17: not done", x.process(1, 5), -9);
        x.signal(0, 1, 8);
        int[] zombie = {ZOMBIE, 0, 1, 8, 0, -9, 2, 1, 72, -1, 0, 0, 0, 0, 0, 0};
        for (int what = 0; what < zombie.length; what++) {
            due("17: of a zombie, process(1, " + what + ")", x.process(1, what), zombie[what]);
        }
        for (int bad : new int[] {-1, -20, 9, 16, 20, 28, 29, MIN_VALUE, MAX_VALUE}) {
            due("17: what " + bad, x.process(0, bad), -1);
        }
        for (int bad : new int[] {-1, 2, 7, 8, MIN_VALUE, MAX_VALUE}) {
            due("17: p " + bad, x.process(bad, 0), -1);
            due("17: p " + bad, x.process(bad, 4), -1);
        }
        x.reap(0, false);
        due("17: free again", x.process(1, 2), -1);
    }

    private static void promise18Taken() {
        JobLayer x = new JobLayer();
        due("18: before any", x.taken(0, 0), -1);
        x.pipe(0);
        x.write(0, 3, 0xFF00L, 3);
        x.read(0, 2, 8);
        due("18: the first", x.taken(0, 0), 0);
        due("18: the second", x.taken(0, 1), 255);
        due("18: the third", x.taken(0, 2), 0);
        due("18: no fourth", x.taken(0, 3), -1);
        for (int bad : new int[] {-1, 8, MIN_VALUE, MAX_VALUE}) {
            due("18: k " + bad, x.taken(0, bad), -1);
            due("18: p " + bad, x.taken(bad, 0), -1);
        }
        due("18: of a free one", x.taken(1, 0), -1);
        x.action(0, 7, 2);
        x.fork(0);
        x.read(0, 2, 1);
        x.end(1, 0);
        due("18: interrupted", x.process(0, 5), -4);
        due("18: that took nothing and changed nothing", x.taken(0, 1), 255);
        x.fork(0);
        x.group(0, 2, 2);
        x.foreground(0, 2);
        due("18: refused in the background", x.read(0, 0, 1), -5);
        due("18: that changed nothing too", x.process(0, 6), 3);
        x.foreground(0, 0);
        x.key(4);
        due("18: a read of nothing", x.read(0, 0, 1), 0);
        due("18: that counts", x.taken(0, 0), -1);
        x.write(0, 3, 50, 1);
        x.read(2, 2, 1);
        x.end(2, 0);
        due("18: of a zombie", x.taken(2, 0), 50);
    }

    private static void promise19Heard() {
        JobLayer x = new JobLayer();
        due("19: before any", x.heard(0, 0), -1);
        for (int s = 1; s <= 7; s++) {
            x.action(0, s, 2);
        }
        for (int i = 0; i < 20; i++) {
            x.signal(0, 0, 1 + i % 7);
            due("19: the latest", x.heard(0, 0), 1 + i % 7);
            due("19: the first", x.heard(0, i), i < 16 ? 1 : -1);
            due("19: none before", x.heard(0, i + 1), -1);
        }
        for (int k = 0; k < 16; k++) {
            due("19: the latest 16, " + k, x.heard(0, k), 1 + (19 - k) % 7);
        }
        due("19: ever", x.process(0, 7), 20);
        for (int bad : new int[] {-1, 16, 17, MIN_VALUE, MAX_VALUE}) {
            due("19: k " + bad, x.heard(0, bad), -1);
        }
        for (int bad : new int[] {-1, 1, 8, MIN_VALUE, MAX_VALUE}) {
            due("19: p " + bad, x.heard(bad, 0), -1);
        }
        x.fork(0);
        x.signal(0, 1, 3);
        x.end(1, 0);
        due("19: of a zombie", x.heard(1, 0), 3);
    }

    private static void promise20Terminal() {
        JobLayer x = new JobLayer();
        for (int i = 0; i < 13; i++) {
            for (int k = i % 4; k < 64; k += 4) {
                due("20: byte " + k, x.terminal(k), k < 5 * i ? 5 * i - 1 - k : -1);
            }
            long bytes = 0;
            for (int k = 4; k >= 0; k--) {
                bytes = bytes << 8 | 5 * i + k;
            }
            x.write(0, 1, bytes, 5);
        }
        due("20: ever", x.terminal(-4), 65);
        due("20: the latest", x.terminal(0), 64);
        due("20: the 64th latest", x.terminal(63), 1);
        due("20: no more", x.terminal(64), -1);
        for (int bad : new int[] {-6, -7, 65, 100, MIN_VALUE, MAX_VALUE}) {
            due("20: k " + bad, x.terminal(bad), -1);
        }
        type(x, "ab");
        x.key(4);
        type(x, "c");
        x.pipe(0);
        x.fork(0);
        x.group(0, 1, 1);
        x.foreground(0, 1);
        due("20: foreground", x.terminal(-1), 1);
        due("20: characters", x.terminal(-2), 3);
        due("20: ready lines", x.terminal(-3), 1);
        due("20: pipes", x.terminal(-5), 1);
    }
}

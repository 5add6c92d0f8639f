/** The terms behind the promises: calls that block, and how the system settles after each call and key. */
public final class SettlingTest {
    private static final int READY = 1;
    private static final int BLOCKED = 2;
    private static final int STOPPED = 3;
    private static final int ZOMBIE = 4;

    public static void main(String[] args) {
        theFirstThatBlockedIsFirst();
        aStoppedCallWaitsAndKeepsItsPlace();
        aLaterCallThatCanBeDoneIsDone();
        oneSettlingSetsOffTheNext();
        foregroundChangesWakeReaders();
        groupChangesDrawInput();
        drawnInputComesInOrder();
        keysWakeReadersInOrder();
        endsWakeBothSidesOfAPipe();
        Check.finish();
    }

    private static void due(String call, long got, long want) {
        Check.due(call, got, want);
    }

    private static void theFirstThatBlockedIsFirst() {
        JobLayer x = new JobLayer();
        x.pipe(0);
        x.fork(0);
        x.fork(0);
        x.fork(0);
        x.read(3, 2, 2);
        x.read(1, 2, 2);
        x.read(2, 2, 2);
        x.write(0, 3, 0x030201L, 3);
        due("3 blocked first", x.taken(3, 0), 1);
        due("it has two", x.process(3, 6), 2);
        due("then 1", x.taken(1, 0), 3);
        due("it has one", x.process(1, 5), 1);
        due("2 waits", x.process(2, 0), BLOCKED);
        x.read(3, 2, 1);
        x.write(0, 3, 4, 1);
        due("2 blocked before 3 did again", x.taken(2, 0), 4);
        due("3 waits", x.process(3, 0), BLOCKED);
    }

    private static void aStoppedCallWaitsAndKeepsItsPlace() {
        JobLayer x = new JobLayer();
        x.pipe(0);
        x.fork(0);
        x.fork(0);
        x.group(0, 1, 1);
        x.read(1, 2, 1);
        x.read(2, 2, 1);
        x.signal(0, 1, 4);
        x.write(0, 3, 5, 1);
        due("1 is stopped", x.process(1, 0), STOPPED);
        due("2 has it", x.taken(2, 0), 5);
        x.read(2, 2, 1);
        x.signal(0, 1, 6);
        due("1 is blocked again", x.process(1, 0), BLOCKED);
        x.write(0, 3, 6, 1);
        due("1 blocked before 2 did", x.taken(1, 0), 6);
        due("2 waits", x.process(2, 0), BLOCKED);

        JobLayer y = new JobLayer();
        y.pipe(0);
        y.fork(0);
        y.group(0, 1, 1);
        y.read(1, 2, 1);
        y.signal(0, 1, 4);
        y.write(0, 3, 7, 1);
        due("it waits for CONT", y.process(1, 5), -9);
        y.signal(0, 1, 6);
        due("done with CONT", y.process(1, 5), 1);
        due("ready", y.process(1, 0), READY);
    }

    private static void aLaterCallThatCanBeDoneIsDone() {
        JobLayer x = new JobLayer();
        x.pipe(0);
        x.fork(0);
        x.fork(0);
        x.write(0, 3, 0, 8);
        x.write(1, 3, 0x1111111111111111L, 8);
        due("a smaller one at once", x.write(2, 3, 0x22L, 1), 1);
        x.write(2, 3, 0x2222222222L, 5);
        due("both blocked", x.process(1, 0) + x.process(2, 0), 2 * BLOCKED);
        x.read(0, 2, 2);
        due("room for the second alone", x.process(1, 0), BLOCKED);
        due("it is done", x.process(2, 5), 5);
        due("six of the first", x.read(0, 2, 6), 6);
        due("no room yet", x.process(1, 0), BLOCKED);
        x.read(0, 2, 2);
        due("now the other", x.process(1, 5), 8);
        due("its bytes are behind", x.read(0, 2, 4), 4);
        due("of the second", x.taken(0, 3), 0x22);
        due("of the first", x.read(0, 2, 8), 8);
        due("its byte", x.taken(0, 7), 0x11);
    }

    private static void oneSettlingSetsOffTheNext() {
        JobLayer x = new JobLayer();
        x.pipe(0);
        x.fork(0);
        x.fork(0);
        x.write(0, 3, 0, 8);
        x.write(0, 3, 0, 4);
        x.write(1, 3, 0x31L, 6);
        x.write(2, 3, 0x32L, 6);
        due("two writers wait", x.process(1, 0) + x.process(2, 0), 2 * BLOCKED);
        x.read(0, 2, 8);
        due("one is done", x.process(1, 5), 6);
        due("the other waits", x.process(2, 5), -9);
        x.read(0, 2, 8);
        due("the other is done", x.process(2, 5), 6);

        JobLayer y = new JobLayer();
        y.pipe(0);
        y.fork(0);
        y.fork(0);
        y.close(0, 2);
        y.close(0, 3);
        y.close(2, 2);
        y.write(1, 3, 0, 8);
        y.write(2, 3, 0, 8);
        y.reap(0, false);
        y.end(1, 0);
        due("the reap takes the ended reader", y.process(0, 5), 1);
        due("the writer ends by PIPE", y.process(2, 8), 66);
        due("the pipe is gone", y.terminal(-5), 0);
        due("the next reap", y.reap(0, false), 2 + 8 * 66);

        JobLayer z = new JobLayer();
        z.pipe(0);
        z.fork(0);
        z.fork(0);
        z.close(0, 2);
        z.close(2, 2);
        z.reap(0, false);
        z.write(1, 3, 0, 8);
        z.write(2, 3, 0, 8);
        due("a reap and a write wait", z.process(0, 0) + z.process(2, 0), 2 * BLOCKED);
        z.close(1, 2);
        due("the write's end lets the earlier reap be done", z.process(0, 5), 2 + 8 * 66);
    }

    private static void foregroundChangesWakeReaders() {
        JobLayer x = new JobLayer();
        x.fork(0);
        x.fork(0);
        x.group(0, 1, 1);
        x.read(0, 0, 1);
        due("process 0 waits for a line", x.process(0, 0), BLOCKED);
        x.foreground(2, 1);
        due("it is in the background now", x.process(0, 5), -5);
        due("ready", x.process(0, 0), READY);
        x.read(1, 0, 1);
        x.foreground(0, 0);
        due("1 draws INPUT", x.process(1, 0), STOPPED);
        due("2 doesn't", x.process(2, 0), READY);
        x.key(10);
        x.foreground(0, 1);
        due("stopped, it doesn't read", x.terminal(-3), 1);
        x.signal(0, 1, 6);
        due("now it does", x.process(1, 5), 1);
        due("the line is gone", x.terminal(-3), 0);
    }

    private static void groupChangesDrawInput() {
        JobLayer x = new JobLayer();
        x.fork(0);
        x.read(1, 0, 1);
        due("in the foreground", x.process(1, 0), BLOCKED);
        due("to a group of its own", x.group(0, 1, 1), 0);
        due("it draws INPUT", x.process(1, 0), STOPPED);
        due("back", x.group(0, 1, 0), 0);
        x.signal(0, 1, 6);
        due("it waits for a line", x.process(1, 0), BLOCKED);
        x.key(10);
        due("it has it", x.process(1, 5), 1);

        JobLayer y = new JobLayer();
        y.fork(0);
        y.action(1, 5, 2);
        y.read(1, 0, 1);
        y.group(0, 1, 1);
        due("one that catches it is interrupted", y.process(1, 5), -4);
        due("it heard it", y.heard(1, 0), 5);
        y.group(0, 1, 0);
        y.read(1, 0, 1);
        y.fork(0);
        y.group(0, 2, 2);
        y.foreground(0, 2);
        due("an orphaned group", y.process(1, 5), -5);
        due("nothing heard by that", y.process(1, 7), 1);
    }

    private static void drawnInputComesInOrder() {
        JobLayer x = new JobLayer();
        x.fork(0);
        x.fork(0);
        x.end(1, 0);
        x.reap(0, false);
        x.fork(2);
        x.group(0, 2, 2);
        x.group(2, 1, 2);
        x.action(2, 7, 2);
        due("2 reads in the background", x.read(2, 0, 1), -9);
        due("its child stops first: CHILD interrupts it", x.process(2, 5), -4);
        due("then INPUT stops it", x.process(2, 0), STOPPED);
        due("1 is stopped", x.process(1, 0), STOPPED);
        due("CHILD heard", x.heard(2, 0), 7);
        x.signal(0, 2, 6);
        due("it was ready before", x.process(2, 0), READY);
        due("reap in it", x.reap(2, true), 1 + 8 * 128);
    }

    private static void keysWakeReadersInOrder() {
        JobLayer x = new JobLayer();
        x.fork(0);
        x.fork(0);
        x.read(2, 0, 2);
        x.read(1, 0, 8);
        for (int c : new int[] {'a', 'b', 'c'}) {
            x.key(c);
        }
        due("no line yet", x.process(2, 0), BLOCKED);
        x.key(10);
        due("the first two", x.taken(2, 1), 'b');
        due("the rest of the line", x.process(1, 5), 2);
        due("its character", x.taken(1, 0), 'c');
        due("nothing left", x.terminal(-2), 0);
        x.read(1, 0, 1);
        x.key(4);
        due("an end of input", x.process(1, 5), 0);
        due("it is gone", x.terminal(-3), 0);
        x.action(1, 1, 2);
        x.read(1, 0, 1);
        x.key(3);
        due("interrupted by a key", x.process(1, 5), -4);
        due("the other ended", x.process(2, 0), ZOMBIE);
    }

    private static void endsWakeBothSidesOfAPipe() {
        JobLayer x = new JobLayer();
        x.pipe(0);
        x.fork(0);
        x.fork(0);
        x.close(0, 2);
        x.close(0, 3);
        x.close(2, 3);
        x.read(2, 2, 4);
        x.signal(0, 1, 3);
        due("the only writer was killed", x.process(2, 5), 0);
        due("ready", x.process(2, 0), READY);
        due("one pipe", x.terminal(-5), 1);
        x.signal(0, 2, 8);
        due("none", x.terminal(-5), 0);
    }
}

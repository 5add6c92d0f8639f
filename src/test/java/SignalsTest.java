/** The terms behind the promises: how a signal comes and is delivered, how a process stops, goes on and ends. */
public final class SignalsTest {
    private static final int READY = 1;
    private static final int BLOCKED = 2;
    private static final int STOPPED = 3;
    private static final int ZOMBIE = 4;

    private static final int INT = 1;
    private static final int PIPE = 2;
    private static final int USER = 3;
    private static final int STOP = 4;
    private static final int INPUT = 5;
    private static final int CONT = 6;
    private static final int CHILD = 7;
    private static final int KILL = 8;

    public static void main(String[] args) {
        defaultActions();
        processZeroNeverEndsNorStops();
        ignoredSignalsAreNotPending();
        stopAndContTakeEachOtherAway();
        stoppedProcessesWait();
        contGoesOnWhateverTheAction();
        killEndsAnything();
        deliveryEndsWithAStopOrAnEnd();
        catchingInterrupts();
        orphanedGroupsDoNotStop();
        endingOrphansAGroup();
        childComesToTheParent();
        childComesInTheMidstOfAGroup();
        Check.finish();
    }

    private static void due(String call, long got, long want) {
        Check.due(call, got, want);
    }

    /** Processes 1 .. count, children of process 0, each in a group of its own. */
    private static JobLayer withJobs(int count) {
        JobLayer x = new JobLayer();
        for (int i = 1; i <= count; i++) {
            x.fork(0);
            x.group(0, i, i);
        }
        return x;
    }

    private static void defaultActions() {
        int[] state = {0, ZOMBIE, ZOMBIE, ZOMBIE, STOPPED, STOPPED, READY, READY, ZOMBIE};
        for (int s = INT; s <= KILL; s++) {
            JobLayer x = withJobs(1);
            x.signal(0, 1, s);
            due("default of " + s, x.process(1, 0), state[s]);
            due("status by " + s, x.process(1, 8), state[s] == ZOMBIE ? 64 + s : -1);
            due("nothing pending by " + s, x.process(1, 4), 0);
            due("nothing heard by " + s, x.process(1, 7), 0);
        }
    }

    private static void processZeroNeverEndsNorStops() {
        JobLayer x = new JobLayer();
        x.fork(0);
        x.group(0, 1, 1);
        x.fork(1);
        // With a child of process 1 in it, group 0 is not orphaned.
        x.group(2, 2, 0);
        for (int s = INT; s <= KILL; s++) {
            x.signal(1, 0, s);
            due("process 0 after " + s, x.process(0, 0), READY);
            due("process 0, nothing pending after " + s, x.process(0, 4), 0);
        }
        x.mask(0, 0xFE);
        x.action(0, CHILD, 2);
        for (int s = INT; s <= CHILD; s++) {
            x.signal(1, 0, s);
        }
        due("pending", x.process(0, 4), 1 << INT | 1 << PIPE | 1 << USER | 1 << CHILD);
        x.mask(0, 0);
        due("what does nothing is delivered and gone", x.process(0, 4), 0);
        due("what is behind it is heard", x.heard(0, 0), CHILD);
        x.mask(0, 1 << STOP | 1 << INPUT);
        x.signal(1, 0, INPUT);
        x.signal(1, 0, STOP);
        x.mask(0, 0);
        due("no STOP of process 0", x.process(0, 0), READY);
    }

    private static void ignoredSignalsAreNotPending() {
        for (int s = INT; s <= CHILD; s++) {
            JobLayer x = withJobs(1);
            x.action(1, s, 1);
            x.mask(1, 0xFE);
            x.signal(0, 1, s);
            due("ignored " + s, x.process(1, 4), 0);
            x.action(1, s, 0);
            x.signal(0, 1, s);
            due("by default pending, or nothing " + s, x.process(1, 4), s >= CONT ? 0 : 1 << s);
            x.action(1, s, 2);
            x.signal(0, 1, s);
            due("caught, pending " + s, x.process(1, 4), 1 << s);
            x.action(1, s, 0);
            due("DEFAULT keeps it " + s, x.process(1, 4), 1 << s);
        }
    }

    private static void stopAndContTakeEachOtherAway() {
        JobLayer x = withJobs(1);
        x.mask(1, 0xFE);
        x.signal(0, 1, STOP);
        x.signal(0, 1, INPUT);
        due("both pending", x.process(1, 4), 1 << STOP | 1 << INPUT);
        x.signal(0, 1, CONT);
        due("gone by a CONT by default", x.process(1, 4), 0);
        x.action(1, CONT, 2);
        for (int s = STOP; s <= INPUT; s++) {
            x.signal(0, 1, CONT);
            due("CONT pending", x.process(1, 4), 1 << CONT);
            x.signal(0, 1, s);
            due("gone by " + s, x.process(1, 4), 1 << s);
            x.action(1, CONT, 1);
            x.signal(0, 1, CONT);
            due("gone by an ignored CONT", x.process(1, 4), 0);
            x.action(1, CONT, 2);
            x.action(1, s, 1);
            x.signal(0, 1, CONT);
            x.signal(0, 1, s);
            due("gone by an ignored " + s, x.process(1, 4), 0);
        }
    }

    private static void stoppedProcessesWait() {
        JobLayer x = withJobs(1);
        x.action(1, USER, 2);
        x.signal(0, 1, STOP);
        x.signal(0, 1, USER);
        x.signal(0, 1, STOP);
        due("pending while it is stopped", x.process(1, 4), 1 << USER | 1 << STOP);
        due("not heard", x.process(1, 7), 0);
        Check.illegalState("a stopped process makes no call", () -> x.pause(1));
        x.signal(0, 1, CONT);
        due("ready", x.process(1, 0), READY);
        due("heard then", x.heard(1, 0), USER);
        due("nothing pending", x.process(1, 4), 0);
        x.signal(0, 1, STOP);
        x.signal(0, 1, INT);
        due("it ends not yet", x.process(1, 0), STOPPED);
        x.signal(0, 1, CONT);
        due("it ends then", x.process(1, 8), 64 + INT);
    }

    private static void contGoesOnWhateverTheAction() {
        for (int how = 0; how <= 2; how++) {
            for (int mask = 0; mask <= 1 << CONT; mask += 1 << CONT) {
                JobLayer x = withJobs(1);
                x.action(1, CONT, how);
                x.mask(1, mask);
                x.signal(0, 1, STOP);
                x.signal(0, 1, CONT);
                due("ready again", x.process(1, 0), READY);
                boolean caught = how == 2;
                due("heard", x.process(1, 7), caught && mask == 0 ? 1 : 0);
                due("pending", x.process(1, 4), caught ? mask : 0);
                due("outcome of no call", x.process(1, 5), 0);
                x.write(1, 1, 0, 1);
                x.signal(0, 1, STOP);
                x.signal(0, 1, CONT);
                due("ready after a call done at once", x.process(1, 0), READY);
                x.mask(1, 0);
                x.pause(1);
                x.signal(0, 1, STOP);
                due("stopped in a call", x.process(1, 0), STOPPED);
                due("its outcome", x.process(1, 5), -9);
                x.signal(0, 1, CONT);
                due("blocked again, or interrupted", x.process(1, 0), caught ? READY : BLOCKED);
                due("its outcome then", x.process(1, 5), caught ? -4 : -9);
            }
        }
    }

    private static void killEndsAnything() {
        JobLayer x = withJobs(3);
        x.mask(1, -1);
        x.pause(2);
        x.signal(0, 3, STOP);
        for (int p = 1; p <= 3; p++) {
            x.signal(0, p, KILL);
            due("killed " + p, x.process(p, 8), 64 + KILL);
        }
    }

    private static void deliveryEndsWithAStopOrAnEnd() {
        JobLayer x = withJobs(2);
        for (int p = 1; p <= 2; p++) {
            x.action(p, INT, 2);
            x.action(p, CONT, 2);
            x.action(p, CHILD, 2);
            x.mask(p, 0xFE);
            x.signal(0, p, CHILD);
            x.signal(0, p, INT);
        }
        x.signal(0, 1, STOP);
        x.signal(0, 2, USER);
        x.mask(1, 0);
        due("stopped", x.process(1, 0), STOPPED);
        due("the lesser was heard", x.heard(1, 0), INT);
        due("the greater waits", x.process(1, 4), 1 << CHILD);
        x.signal(0, 1, CONT);
        due("CONT before CHILD", x.heard(1, 1), CONT);
        due("CHILD last", x.heard(1, 0), CHILD);
        x.mask(2, 0);
        due("ended", x.process(2, 8), 64 + USER);
        due("the lesser was heard", x.process(2, 7), 1);
        due("nothing pending", x.process(2, 4), 0);
    }

    private static void catchingInterrupts() {
        JobLayer x = new JobLayer();
        x.pipe(0);
        x.fork(0);
        x.action(1, USER, 2);
        x.write(0, 3, 0, 8);
        x.write(1, 3, 0, 8);
        x.signal(0, 1, USER);
        due("a write", x.process(1, 5), -4);
        due("ready", x.process(1, 0), READY);
        x.read(0, 2, 8);
        due("nothing of it was written", x.write(0, 3, 0, 8) + x.write(0, 3, 0, 4), 12);
        x.read(0, 2, 8);
        x.read(0, 2, 8);
        x.read(1, 2, 1);
        x.signal(0, 1, USER);
        due("a read", x.process(1, 5), -4);
        x.fork(1);
        x.reap(1, true);
        x.signal(0, 1, USER);
        due("a reap", x.process(1, 5), -4);
        x.read(1, 0, 1);
        x.signal(0, 1, USER);
        due("a read of the terminal", x.process(1, 5), -4);
        due("heard", x.process(1, 7), 4);
        x.pause(1);
        x.mask(2, 0);
        x.signal(0, 1, CONT);
        x.signal(0, 1, CHILD);
        due("DEFAULT that does nothing interrupts nothing", x.process(1, 0), BLOCKED);
    }

    private static void orphanedGroupsDoNotStop() {
        for (int s = STOP; s <= INPUT; s++) {
            JobLayer x = new JobLayer();
            x.fork(0);
            x.signal(0, 1, s);
            due("group 0 is orphaned, " + s, x.process(1, 0), READY);
            due("nothing pending", x.process(1, 4), 0);
            x.group(0, 1, 1);
            x.fork(1);
            x.signal(0, 2, s);
            due("one parent elsewhere is enough", x.process(2, 0), STOPPED);
            x.group(1, 2, 2);
            x.signal(0, 1, s);
            due("its own parent is elsewhere", x.process(1, 0), STOPPED);
        }
    }

    private static void endingOrphansAGroup() {
        JobLayer x = new JobLayer();
        x.fork(0);
        x.fork(1);
        x.fork(1);
        x.group(1, 2, 2);
        x.group(1, 3, 2);
        x.group(0, 1, 1);
        x.end(1, 0);
        x.signal(0, 3, STOP);
        due("process 0 is the parent, in another group", x.process(3, 0), STOPPED);

        JobLayer y = new JobLayer();
        y.fork(0);
        y.group(0, 1, 1);
        y.fork(1);
        y.group(1, 2, 0);
        y.fork(0);
        y.signal(0, 3, STOP);
        due("group 0 by the child of 1", y.process(3, 0), STOPPED);
        y.signal(0, 3, CONT);
        y.end(1, 0);
        y.signal(0, 3, STOP);
        due("orphaned when 1 has ended", y.process(3, 0), READY);

        JobLayer z = new JobLayer();
        z.fork(0);
        z.group(0, 1, 1);
        z.fork(1);
        z.group(1, 2, 0);
        z.fork(0);
        z.end(2, 0);
        z.signal(0, 3, STOP);
        due("a zombie's parent does not count", z.process(3, 0), READY);
    }

    private static void childComesToTheParent() {
        JobLayer x = withJobs(2);
        x.action(0, CHILD, 2);
        x.signal(0, 1, STOP);
        due("by a stop", x.process(0, 7), 1);
        x.signal(0, 1, STOP);
        x.signal(0, 1, CONT);
        due("not by going on", x.process(0, 7), 1);
        x.signal(0, 1, INPUT);
        due("by another stop", x.process(0, 7), 2);
        x.signal(0, 1, KILL);
        due("by an end", x.process(0, 7), 3);
        due("all are CHILD", x.heard(0, 0) + x.heard(0, 1) + x.heard(0, 2), 3 * CHILD);
        x.pause(0);
        x.end(2, 0);
        due("it interrupts", x.process(0, 5), -4);
        x.fork(0);
        x.reap(0, false);
        x.reap(0, false);
        x.reap(0, false);
        due("blocked in a reap", x.process(0, 0), BLOCKED);
        x.end(3, 5);
        due("CHILD interrupts the reap before it is done", x.process(0, 5), -4);
        due("the zombie is there", x.reap(0, false), 3 + 8 * 5);
    }

    private static void childComesInTheMidstOfAGroup() {
        JobLayer x = new JobLayer();
        x.fork(0);
        x.fork(0);
        x.end(1, 0);
        x.reap(0, false);
        // Process 1 becomes a child of process 2: it comes before its parent in the group.
        x.fork(2);
        x.group(0, 2, 2);
        x.group(2, 1, 2);
        x.action(2, CHILD, 2);
        x.signal(0, -3, STOP);
        due("1 is stopped", x.process(1, 0), STOPPED);
        due("2 is stopped", x.process(2, 0), STOPPED);
        due("2 heard of 1 before it stopped", x.heard(2, 0), CHILD);
        due("nothing pending", x.process(2, 4), 0);
        x.signal(0, -3, KILL);
        due("1 went to 0 with the end of 2", x.process(1, 1), 0);
        due("2 had CHILD while stopped, but ended", x.process(2, 7), 1);
    }
}

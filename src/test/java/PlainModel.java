import java.util.ArrayDeque;
import java.util.ArrayList;
import java.util.Deque;
import java.util.HashSet;
import java.util.List;
import java.util.Set;
import java.util.TreeSet;

/**
 * The document once more, written sentence by sentence with the library and with recursion, for
 * RandomRunsTest to hold the program against.
 */
final class PlainModel {
    enum State { FREE, READY, BLOCKED, STOPPED, ZOMBIE }

    /** A pipe, or with pipe null the terminal. */
    record End(Deque<Integer> pipe, boolean writing) { }

    /** What a process waits for: kind r, w, z (reap) or p. */
    record Want(char kind, End end, long bytes, int n, boolean stopped) { }

    private static final class Proc {
        final int id;
        State state = State.FREE;
        State before;
        Proc parent;
        int group;
        End[] files = new End[6];
        int[] actions = new int[9];
        Set<Integer> mask = new TreeSet<>();
        TreeSet<Integer> pending = new TreeSet<>();
        Want want;
        int outcome;
        List<Integer> taken = List.of();
        List<Integer> heard = new ArrayList<>();
        int status;
        boolean told;

        Proc(int id) {
            this.id = id;
        }

        boolean there() {
            return state == State.READY || state == State.BLOCKED || state == State.STOPPED;
        }
    }

    private final List<Proc> procs = new ArrayList<>();
    private final List<Proc> queue = new ArrayList<>();
    private final Deque<List<Integer>> ready = new ArrayDeque<>();
    private final List<Integer> screen = new ArrayList<>();
    private List<Integer> line = new ArrayList<>();
    private int foreground = 0;

    PlainModel() {
        for (int i = 0; i < 8; i++) {
            procs.add(new Proc(i));
        }
        Proc first = procs.get(0);
        first.state = State.READY;
        first.files[0] = new End(null, false);
        first.files[1] = new End(null, false);
    }

    private Proc ready(int p) {
        if (p < 0 || p > 7 || procs.get(p).state != State.READY) {
            throw new IllegalStateException();
        }
        return procs.get(p);
    }

    private static void argument(boolean good) {
        if (!good) {
            throw new IllegalArgumentException();
        }
    }

    private int settled(int answer) {
        boolean again = true;
        while (again) {
            again = false;
            for (Proc p : new ArrayList<>(queue)) {
                if (p.state != State.BLOCKED) {
                    continue;
                }
                if (drawsInput(p)) {
                    comesToGroup(p.group, 5);
                    again = true;
                    break;
                }
                Integer done = tryWant(p);
                if (done != null) {
                    doneLater(p, done);
                    if (done == -6) {
                        comes(p, 2);
                    }
                    again = true;
                    break;
                }
            }
        }
        return answer;
    }

    private void doneLater(Proc p, int answer) {
        p.state = State.READY;
        p.outcome = answer;
        p.want = null;
        queue.remove(p);
    }

    private boolean drawsInput(Proc p) {
        return p.want.kind == 'r' && p.want.end.pipe == null && p.group != foreground
                && !(p.id == 0 || p.actions[5] == 1 || p.mask.contains(5) || orphaned(p.group));
    }

    private boolean orphaned(int group) {
        return procs.stream().noneMatch(p -> p.there() && p.group == group
                && p.parent != null && p.parent.there() && p.parent.group != group);
    }

    private boolean someFileIs(Deque<Integer> pipe, boolean writing) {
        for (Proc p : procs) {
            for (End e : p.files) {
                if (e != null && e.pipe == pipe && e.writing == writing) {
                    return true;
                }
            }
        }
        return false;
    }

    /** The answer, or null when it can't be done now. */
    private Integer tryWant(Proc p) {
        Want w = p.want;
        return switch (w.kind) {
            case 'r' -> tryRead(p, w);
            case 'w' -> tryWrite(w);
            case 'z' -> tryReap(p, w);
            default -> null;
        };
    }

    private Integer tryRead(Proc p, Want w) {
        if (w.end.pipe != null) {
            if (w.end.pipe.isEmpty() && someFileIs(w.end.pipe, true)) {
                return null;
            }
            return take(p, w.end.pipe, w.n);
        }
        if (p.group != foreground) {
            return drawsInput(p) ? null : Integer.valueOf(-5);
        }
        if (ready.isEmpty()) {
            return null;
        }
        Deque<Integer> first = new ArrayDeque<>(ready.removeFirst());
        int count = take(p, first, w.n);
        if (!first.isEmpty()) {
            ready.addFirst(new ArrayList<>(first));
        }
        return count;
    }

    private static int take(Proc p, Deque<Integer> from, int n) {
        List<Integer> got = new ArrayList<>();
        while (got.size() < n && !from.isEmpty()) {
            got.add(from.removeFirst());
        }
        p.taken = got;
        return got.size();
    }

    private Integer tryWrite(Want w) {
        if (w.end.pipe != null && !someFileIs(w.end.pipe, false)) {
            return -6;
        }
        if (w.end.pipe != null && w.end.pipe.size() + w.n > 12) {
            return null;
        }
        for (int k = 0; k < w.n; k++) {
            int b = (int) (w.bytes >> (8 * k) & 0xFF);
            if (w.end.pipe == null) {
                screen.add(b);
            } else {
                w.end.pipe.addLast(b);
            }
        }
        return w.n;
    }

    private Integer tryReap(Proc p, Want w) {
        List<Proc> children = procs.stream().filter(c -> c.state != State.FREE && c.parent == p).toList();
        if (children.isEmpty()) {
            return -3;
        }
        for (Proc c : children) {
            if (c.state == State.ZOMBIE) {
                c.state = State.FREE;
                return c.id + 8 * c.status;
            }
        }
        for (Proc c : children) {
            if (w.stopped && c.state == State.STOPPED && !c.told) {
                c.told = true;
                return c.id + 8 * 128;
            }
        }
        return null;
    }

    private int call(Proc p, Want want) {
        p.want = want;
        Integer done = drawsInput(p) ? null : tryWant(p);
        if (done == null) {
            p.state = State.BLOCKED;
            p.outcome = -9;
            queue.add(p);
            return settled(-9);
        }
        p.want = null;
        if (done == -6) {
            comes(p, 2);
        }
        return settled(done);
    }

    private boolean comesToGroup(int group, int s) {
        boolean any = false;
        for (Proc p : procs) {
            if (p.there() && p.group == group) {
                any = true;
                comes(p, s);
            }
        }
        return any;
    }

    private void comes(Proc p, int s) {
        if (p == null || !p.there()) {
            return;
        }
        if (s == 6) {
            p.pending.remove(4);
            p.pending.remove(5);
            if (p.state == State.STOPPED) {
                p.state = p.before;
            }
        }
        if (s == 4 || s == 5) {
            p.pending.remove(6);
        }
        if (s == 8) {
            ends(p, 64 + 8);
            return;
        }
        boolean lost = p.actions[s] == 1 || (p.actions[s] == 0 && (s == 6 || s == 7));
        if (!lost) {
            p.pending.add(s);
        }
        delivered(p);
    }

    private void delivered(Proc p) {
        while (p.there() && p.state != State.STOPPED) {
            Integer s = p.pending.stream().filter(x -> !p.mask.contains(x)).findFirst().orElse(null);
            if (s == null) {
                return;
            }
            p.pending.remove(s);
            if (p.actions[s] == 2) {
                p.heard.add(s);
                if (p.state == State.BLOCKED) {
                    doneLater(p, -4);
                }
            } else if (s <= 3) {
                ends(p, 64 + s);
            } else if ((s == 4 || s == 5) && !orphaned(p.group)) {
                stops(p);
            }
        }
    }

    private void stops(Proc p) {
        if (p.id != 0) {
            p.before = p.state;
            p.state = State.STOPPED;
            p.told = false;
            comes(p.parent, 7);
        }
    }

    private void ends(Proc p, int status) {
        if (p.id == 0) {
            return;
        }
        p.files = new End[6];
        procs.stream().filter(c -> c.parent == p).forEach(c -> c.parent = procs.get(0));
        p.want = null;
        queue.remove(p);
        p.pending.clear();
        p.status = status;
        p.state = p.parent.actions[7] == 1 ? State.FREE : State.ZOMBIE;
        comes(p.parent, 7);
    }

    void key(int c) {
        int all = line.size() + ready.stream().mapToInt(List::size).sum();
        if (c == 3 || c == 26) {
            line.clear();
            ready.clear();
            comesToGroup(foreground, c == 3 ? 1 : 4);
        } else if (c == 8) {
            if (!line.isEmpty()) {
                line.remove(line.size() - 1);
            }
        } else if (c == 21) {
            line.clear();
        } else if ((c == 10 && all < 24 || c == 4) && ready.size() < 8) {
            if (c == 10) {
                line.add(10);
            }
            ready.addLast(line);
            line = new ArrayList<>();
        } else if (c >= 32 && c <= 126 && all < 24) {
            line.add(c);
        }
        settled(0);
    }

    int fork(int p) {
        Proc maker = ready(p);
        for (int i = 0; i < 8; i++) {
            if (procs.get(i).state == State.FREE) {
                Proc c = new Proc(i);
                c.state = State.READY;
                c.parent = maker;
                c.group = maker.group;
                c.files = maker.files.clone();
                c.actions = maker.actions.clone();
                c.mask = maker.mask;
                procs.set(i, c);
                return settled(i);
            }
        }
        return -2;
    }

    int end(int p, int status) {
        Proc x = ready(p);
        if (p == 0) {
            return -7;
        }
        ends(x, status & 63);
        return settled(0);
    }

    int pipe(int p) {
        Proc x = ready(p);
        List<Integer> none = new ArrayList<>();
        for (int k = 0; k < 6; k++) {
            if (x.files[k] == null) {
                none.add(k);
            }
        }
        if (none.size() < 2 || pipes() == 6) {
            return -2;
        }
        Deque<Integer> made = new ArrayDeque<>();
        x.files[none.get(0)] = new End(made, false);
        x.files[none.get(1)] = new End(made, true);
        return settled(none.get(0) + 8 * none.get(1));
    }

    private int pipes() {
        // Deques of the library are equal only when they are the same, so a set counts them.
        Set<Deque<Integer>> seen = new HashSet<>();
        for (Proc p : procs) {
            for (End e : p.files) {
                if (e != null && e.pipe != null) {
                    seen.add(e.pipe);
                }
            }
        }
        return seen.size();
    }

    private static End file(Proc p, int file) {
        return file < 0 || file > 5 ? null : p.files[file];
    }

    int copy(int p, int from, int to) {
        Proc x = ready(p);
        if (file(x, from) == null || to < 0 || to > 5) {
            return -1;
        }
        x.files[to] = x.files[from];
        return settled(to);
    }

    int close(int p, int file) {
        Proc x = ready(p);
        if (file(x, file) == null) {
            return -1;
        }
        x.files[file] = null;
        return settled(0);
    }

    int read(int p, int file, int n) {
        Proc x = ready(p);
        argument(n >= 1 && n <= 8);
        End e = file(x, file);
        return e == null || e.writing ? -1 : call(x, new Want('r', e, 0, n, false));
    }

    int write(int p, int file, long bytes, int n) {
        Proc x = ready(p);
        argument(n >= 1 && n <= 8);
        End e = file(x, file);
        return e == null || e.pipe != null && !e.writing ? -1 : call(x, new Want('w', e, bytes, n, false));
    }

    int reap(int p, boolean stopped) {
        return call(ready(p), new Want('z', null, 0, 0, stopped));
    }

    int pause(int p) {
        return call(ready(p), new Want('p', null, 0, 0, false));
    }

    int signal(int p, int to, int s) {
        ready(p);
        argument(s >= 1 && s <= 8 && to >= -8 && to <= 7);
        if (to < 0) {
            return settled(comesToGroup(-1 - to, s) ? 0 : -8);
        }
        boolean there = procs.get(to).there();
        comes(procs.get(to), s);
        return settled(there ? 0 : -8);
    }

    int action(int p, int s, int how) {
        Proc x = ready(p);
        argument(s >= 1 && s <= 7 && how >= 0 && how <= 2);
        int was = x.actions[s];
        x.actions[s] = how;
        if (how == 1) {
            x.pending.remove(s);
        }
        return settled(was);
    }

    private static int bits(Set<Integer> signals) {
        return signals.stream().mapToInt(s -> 1 << s).sum();
    }

    int mask(int p, int bits) {
        Proc x = ready(p);
        int was = bits(x.mask);
        x.mask = new TreeSet<>();
        for (int s = 1; s <= 7; s++) {
            if ((bits >> s & 1) == 1) {
                x.mask.add(s);
            }
        }
        delivered(x);
        return settled(was);
    }

    private boolean groupThere(int g) {
        return procs.stream().anyMatch(p -> p.there() && p.group == g);
    }

    int group(int p, int q, int g) {
        Proc x = ready(p);
        if (q < 1 || q > 7) {
            return -7;
        }
        Proc y = procs.get(q);
        if (!y.there() || y != x && y.parent != x || g != q && !groupThere(g)) {
            return -7;
        }
        y.group = g;
        return settled(0);
    }

    int foreground(int p, int g) {
        Proc x = ready(p);
        if (!groupThere(g) || p != 0 && x.group != foreground) {
            return -7;
        }
        foreground = g;
        return settled(0);
    }

    int process(int p, int what) {
        if (p < 0 || p > 7 || procs.get(p).state == State.FREE) {
            return -1;
        }
        Proc x = procs.get(p);
        if (what >= 10 && what <= 15) {
            End e = x.files[what - 10];
            return e == null ? 0 : e.pipe == null ? 1 : e.writing ? 3 : 2;
        }
        if (what >= 21 && what <= 27) {
            return x.actions[what - 20];
        }
        return switch (what) {
            case 0 -> x.state.ordinal();
            case 1 -> x.parent == null ? -1 : x.parent.id;
            case 2 -> x.group;
            case 3 -> bits(x.mask);
            case 4 -> bits(x.pending);
            case 5 -> x.outcome;
            case 6 -> x.taken.size();
            case 7 -> x.heard.size();
            case 8 -> x.state == State.ZOMBIE ? x.status : -1;
            default -> -1;
        };
    }

    int taken(int p, int k) {
        if (process(p, 0) < 0 || k < 0 || k >= procs.get(p).taken.size()) {
            return -1;
        }
        return procs.get(p).taken.get(k);
    }

    int heard(int p, int k) {
        if (process(p, 0) < 0 || k < 0 || k > 15) {
            return -1;
        }
        List<Integer> all = procs.get(p).heard;
        return k < all.size() ? all.get(all.size() - 1 - k) : -1;
    }

    int terminal(int k) {
        return switch (k) {
            case -1 -> foreground;
            case -2 -> line.size() + ready.stream().mapToInt(List::size).sum();
            case -3 -> ready.size();
            case -4 -> screen.size();
            case -5 -> pipes();
            default -> k < 0 || k > 63 || k >= screen.size() ? -1 : screen.get(screen.size() - 1 - k);
        };
    }
}

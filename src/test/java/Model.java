import java.util.ArrayList;
import java.util.Arrays;
import java.util.List;
import java.util.TreeMap;
import java.util.function.IntSupplier;

/** The document once more, as plainly as the Java library allows: what RandomRunsTest holds the program against. */
final class Model {
    static final class Refused extends RuntimeException {
        private static final long serialVersionUID = 1L;
        final int code;

        Refused(int code) {
            super(null, null, false, false);
            this.code = code;
        }
    }

    record Post(long type, List<Integer> bytes) {
    }

    record Step(int counter, int change, int way) {
    }

    /** What one waits for: on a thing, to send a post, to take with (n, type, way), or with steps. */
    static final class Wait {
        Object on;
        Post post;
        int n, way, stoppedAt;
        long type;
        List<Step> steps;
    }

    static final class P {
        int number, user, group, result;
        boolean ended;
        int[] area = new int[64];
        long taken;
        List<Step> given = new ArrayList<>();
        Wait wait;
    }

    static class T {
        int id, key, mode;
        int[] owner, maker;
    }

    static final class Q extends T {
        int room = 256;
        List<Post> posts = new ArrayList<>();

        int bytes() {
            return posts.stream().mapToInt(m -> m.bytes().size()).sum();
        }
    }

    static final class S extends T {
        int[] values, lasts;
        int[][] undoes;
    }

    final List<P> all = new ArrayList<>();
    final List<P> waiting = new ArrayList<>();
    final TreeMap<Integer, T> queues = new TreeMap<>();
    final TreeMap<Integer, T> sets = new TreeMap<>();
    final int[][] before = new int[2][12];

    static void refuseIf(boolean so, int code) {
        if (so) {
            throw new Refused(code);
        }
    }

    static void outside(boolean within) {
        refuseIf(!within, -4);
    }

    static boolean in(long x, long low, long high) {
        return low <= x && x <= high;
    }

    static int answer(IntSupplier call) {
        try {
            return call.getAsInt();
        } catch (Refused r) {
            return r.code;
        }
    }

    P known(int p) {
        refuseIf(!in(p, 0, all.size() - 1), -2);
        return all.get(p);
    }

    int called(int p, IntSupplier call) {
        int free = answer(() -> {
            P a = known(p);
            refuseIf(a.ended || a.wait != null, -3);
            return 0;
        });
        if (free != 0) {
            return free;
        }
        int got = answer(call);
        all.get(p).result = got;
        return got;
    }

    void goOn(P a, int result) {
        waiting.remove(a);
        a.wait = null;
        a.result = result;
    }

    int pend(P a, Wait w) {
        a.wait = w;
        waiting.add(a);
        return -10;
    }

    static int may(P a, T t) {
        if (a.user == 0) {
            return 7;
        }
        int shift = a.user == t.owner[0] || a.user == t.maker[0] ? 6 : a.group == t.owner[1] || a.group == t.maker[1] ? 3 : 0;
        return (t.mode >> shift) & 7;
    }

    static boolean rules(P a, T t) {
        return a.user == 0 || a.user == t.owner[0] || a.user == t.maker[0];
    }

    T valid(TreeMap<Integer, T> things, int id) {
        T found = null;
        for (T t : things.values()) {
            if (t.id == id) {
                found = t;
            }
        }
        refuseIf(found == null, -5);
        return found;
    }

    int process(int user, int group) {
        if (!in(user, 0, 99) || !in(group, 0, 99)) {
            return -4;
        }
        if (all.size() == 16) {
            return -9;
        }
        P a = new P();
        a.number = all.size();
        a.user = user;
        a.group = group;
        all.add(a);
        return a.number;
    }

    int exit(int p) {
        return answer(() -> {
            P a = known(p);
            refuseIf(a.ended, -3);
            if (a.wait != null) {
                goOn(a, -16);
            }
            for (T t : sets.values()) {
                S s = (S) t;
                int[] old = s.values.clone();
                for (int c = 0; c < old.length; c++) {
                    if (s.undoes[p][c] != 0) {
                        s.values[c] = Math.min(32767, Math.max(0, old[c] + s.undoes[p][c]));
                        s.lasts[c] = p;
                        s.undoes[p][c] = 0;
                    }
                }
                if (!Arrays.equals(old, s.values)) {
                    serve(s);
                }
            }
            a.ended = true;
            return 1;
        });
    }

    int signal(int p) {
        return answer(() -> {
            refuseIf(known(p).wait == null, -3);
            goOn(known(p), -16);
            return 1;
        });
    }

    int result(int p) {
        return answer(() -> known(p).result);
    }

    int area(int p, int i, int v) {
        return answer(() -> {
            P a = known(p);
            outside(in(i, 0, 63) && in(v, 0, 255));
            int was = a.area[i];
            a.area[i] = v;
            return was;
        });
    }

    int areaAt(int p, int i) {
        return answer(() -> {
            P a = known(p);
            outside(in(i, 0, 63));
            return a.area[i];
        });
    }

    long taken(int p) {
        return in(p, 0, all.size() - 1) ? all.get(p).taken : -2;
    }

    int open(P a, int key, int n, int way, boolean isSet) {
        TreeMap<Integer, T> things = isSet ? sets : queues;
        outside(in(key, 0, 1000000) && in(way, 0, 2047) && in(n, 0, 8));
        T there = null;
        for (T t : things.values()) {
            if (key != 0 && t.key == key) {
                there = t;
            }
        }
        if (there != null) {
            refuseIf((way / 512) % 4 == 3, -7);
            refuseIf(isSet && n > ((S) there).values.length, -5);
            int wants = (way / 64 % 8) | (way / 8 % 8) | (way % 8);
            refuseIf((may(a, there) & wants) != wants, -6);
            return there.id;
        }
        refuseIf(key != 0 && way / 512 % 2 == 0, -8);
        refuseIf(isSet && n == 0, -5);
        refuseIf(things.size() == 12, -9);
        int slot = 0;
        while (things.containsKey(slot)) {
            slot++;
        }
        T t;
        if (isSet) {
            S s = new S();
            s.values = new int[n];
            s.lasts = new int[n];
            Arrays.fill(s.lasts, -1);
            s.undoes = new int[16][n];
            t = s;
        } else {
            t = new Q();
        }
        t.id = slot + 12 * before[isSet ? 1 : 0][slot]++;
        t.key = key;
        t.mode = way % 512;
        t.owner = new int[] {a.user, a.group};
        t.maker = t.owner.clone();
        things.put(slot, t);
        return t.id;
    }

    int queue(int p, int key, int way) {
        return called(p, () -> open(all.get(p), key, 1, way, false));
    }

    int set(int p, int key, int n, int way) {
        return called(p, () -> open(all.get(p), key, n, way, true));
    }

    int remove(int p, int of, int id) {
        return called(p, () -> {
            outside(in(of, 0, 1));
            T t = valid(of == 0 ? queues : sets, id);
            refuseIf(!rules(all.get(p), t), -6);
            (of == 0 ? queues : sets).values().remove(t);
            for (P a : all) {
                if (a.wait != null && a.wait.on == t) {
                    goOn(a, -14);
                }
            }
            letSendersIn();
            return 0;
        });
    }

    int own(int p, int of, int id, int user, int group, int mode) {
        return called(p, () -> {
            outside(in(of, 0, 1) && in(user, 0, 99) && in(group, 0, 99) && in(mode, 0, 511));
            T t = valid(of == 0 ? queues : sets, id);
            refuseIf(!rules(all.get(p), t), -6);
            t.owner = new int[] {user, group};
            t.mode = mode;
            return 0;
        });
    }

    int room(int p, int id, int bytes) {
        return called(p, () -> {
            outside(in(bytes, 0, 1000));
            Q q = (Q) valid(queues, id);
            refuseIf(!rules(all.get(p), q), -6);
            refuseIf(bytes > q.room && all.get(p).user != 0, -6);
            q.room = bytes;
            letSendersIn();
            return 0;
        });
    }

    static boolean wants(long t, int way, long type) {
        if (t == 0) {
            return true;
        }
        if (t > 0) {
            return (way & 4) != 0 ? type != t : type == t;
        }
        return Math.addExact(type, t) <= 0;
    }

    int give(P a, Post m, int n) {
        int k = Math.min(n, m.bytes().size());
        for (int i = 0; i < k; i++) {
            a.area[i] = m.bytes().get(i);
        }
        a.taken = m.type();
        return k;
    }

    /** Whether the post is sent. */
    boolean trySend(Q q, Post m) {
        for (P a : new ArrayList<>(waiting)) {
            Wait w = a.wait;
            if (w.on == q && w.post == null && wants(w.type, w.way, m.type())) {
                if (m.bytes().size() > w.n && (w.way & 2) == 0) {
                    goOn(a, -13);
                } else {
                    goOn(a, give(a, m, w.n));
                    return true;
                }
            }
        }
        if (fits(q, m)) {
            q.posts.add(m);
            return true;
        }
        return false;
    }

    boolean fits(Q q, Post m) {
        int n = m.bytes().size();
        return q.bytes() + n <= q.room && q.posts.size() < 40 && count(5) + n <= 1000;
    }

    void letSendersIn() {
        boolean did = true;
        while (did) {
            did = false;
            for (P a : new ArrayList<>(waiting)) {
                if (a.wait != null && a.wait.post != null && fits((Q) a.wait.on, a.wait.post)) {
                    Wait w = a.wait;
                    goOn(a, 0);
                    trySend((Q) w.on, w.post);
                    did = true;
                }
            }
        }
    }

    int send(int p, int id, long type, int n, boolean nowait) {
        return called(p, () -> {
            outside(type >= 1 && in(n, 0, 64));
            Q q = (Q) valid(queues, id);
            refuseIf(n > q.room, -5);
            P a = all.get(p);
            refuseIf((may(a, q) & 2) == 0, -6);
            Post m = new Post(type, Arrays.stream(a.area, 0, n).boxed().toList());
            if (trySend(q, m)) {
                return 0;
            }
            refuseIf(nowait, -11);
            Wait w = new Wait();
            w.on = q;
            w.post = m;
            return pend(a, w);
        });
    }

    int take(int p, int id, int n, long type, int way) {
        return called(p, () -> {
            outside(in(n, 0, 64) && in(way, 0, 7));
            Q q = (Q) valid(queues, id);
            P a = all.get(p);
            refuseIf((may(a, q) & 4) == 0, -6);
            Post best = null;
            for (Post m : q.posts) {
                if (wants(type, way, m.type()) && (best == null || type < 0 && m.type() < best.type())) {
                    best = m;
                }
            }
            if (best != null) {
                refuseIf(best.bytes().size() > n && (way & 2) == 0, -13);
                for (int i = 0; i < q.posts.size(); i++) {
                    if (q.posts.get(i) == best) {
                        q.posts.remove(i);
                        break;
                    }
                }
                int k = give(a, best, n);
                letSendersIn();
                return k;
            }
            refuseIf((way & 1) != 0, -12);
            Wait w = new Wait();
            w.on = q;
            w.n = n;
            w.way = way;
            w.type = type;
            return pend(a, w);
        });
    }

    int step(int p, int counter, int change, int way) {
        return answer(() -> {
            P a = known(p);
            refuseIf(a.ended || a.wait != null, -3);
            outside(in(counter, 0, 7) && in(change, -32767, 32767) && in(way, 0, 3));
            refuseIf(a.given.size() == 8, -9);
            a.given.add(new Step(counter, change, way));
            return a.given.size();
        });
    }

    /** -1: done; -2: beyond the range; else the number of the step that stops. */
    static int tried(S s, int p, List<Step> steps) {
        int[] v = s.values.clone();
        int[] u = s.undoes[p].clone();
        for (int i = 0; i < steps.size(); i++) {
            Step t = steps.get(i);
            int c = t.counter();
            if (t.change() == 0 ? v[c] != 0 : v[c] + t.change() < 0) {
                return i;
            }
            v[c] += t.change();
            if (v[c] > 32767) {
                return -2;
            }
            if ((t.way() & 2) != 0) {
                u[c] -= t.change();
                if (Math.abs(u[c]) > 32767) {
                    return -2;
                }
            }
        }
        s.values = v;
        s.undoes[p] = u;
        for (Step t : steps) {
            s.lasts[t.counter()] = p;
        }
        return -1;
    }

    void serve(S s) {
        for (int i = 0; i < waiting.size(); i++) {
            P a = waiting.get(i);
            if (a.wait.on != s) {
                continue;
            }
            int[] old = s.values.clone();
            int got = tried(s, a.number, a.wait.steps);
            if (got >= 0) {
                a.wait.stoppedAt = got;
                continue;
            }
            goOn(a, got == -1 ? 0 : -15);
            i = Arrays.equals(old, s.values) ? i - 1 : -1;
        }
    }

    int steps(int p, int id) {
        return called(p, () -> {
            P a = all.get(p);
            List<Step> steps = a.given;
            a.given = new ArrayList<>();
            S s = (S) valid(sets, id);
            refuseIf(steps.isEmpty() || steps.stream().anyMatch(t -> t.counter() >= s.values.length), -5);
            boolean writes = steps.stream().anyMatch(t -> t.change() != 0);
            refuseIf((may(a, s) & (writes ? 2 : 4)) == 0, -6);
            int[] old = s.values.clone();
            int got = tried(s, p, steps);
            refuseIf(got == -2, -15);
            if (got == -1) {
                if (!Arrays.equals(old, s.values)) {
                    serve(s);
                }
                return 0;
            }
            refuseIf((steps.get(got).way() & 1) != 0, -11);
            Wait w = new Wait();
            w.on = s;
            w.steps = steps;
            w.stoppedAt = got;
            return pend(a, w);
        });
    }

    int value(int p, int id, int counter, int v) {
        return called(p, () -> {
            outside(in(v, 0, 32767));
            S s = (S) valid(sets, id);
            refuseIf(!in(counter, 0, s.values.length - 1), -5);
            refuseIf((may(all.get(p), s) & 2) == 0, -6);
            boolean another = s.values[counter] != v;
            s.values[counter] = v;
            s.lasts[counter] = p;
            for (int[] u : s.undoes) {
                u[counter] = 0;
            }
            if (another) {
                serve(s);
            }
            return 0;
        });
    }

    static int fact(T t, int what) {
        return new int[] {t.id, t.key, t.owner[0], t.owner[1], t.maker[0], t.maker[1], t.mode}[what];
    }

    int queueOf(int slot, int what) {
        if (!in(what, 0, 11)) {
            return -4;
        }
        Q q = (Q) queues.get(slot);
        if (q == null) {
            return -1;
        }
        long senders = waiting.stream().filter(a -> a.wait.on == q && a.wait.post != null).count();
        long takers = waiting.stream().filter(a -> a.wait.on == q && a.wait.post == null).count();
        return what < 7 ? fact(q, what) : new int[] {q.bytes(), q.room, q.posts.size(), (int) senders, (int) takers}[what - 7];
    }

    long message(int slot, int i, int what) {
        Q q = (Q) queues.get(slot);
        if (q == null || !in(i, 0, q.posts.size() - 1)) {
            return -1;
        }
        Post m = q.posts.get(i);
        if (what == 0) {
            return m.type();
        }
        if (what == 1) {
            return m.bytes().size();
        }
        return in(what, 2, m.bytes().size() + 1) ? m.bytes().get(what - 2) : -1;
    }

    int setOf(int slot, int what) {
        if (!in(what, 0, 8)) {
            return -4;
        }
        S s = (S) sets.get(slot);
        if (s == null) {
            return -1;
        }
        return what < 7 ? fact(s, what) : what == 7 ? s.values.length : (int) waiting.stream().filter(a -> a.wait.on == s).count();
    }

    int counter(int slot, int counter, int what) {
        if (!in(what, 0, 3)) {
            return -4;
        }
        S s = (S) sets.get(slot);
        if (s == null || !in(counter, 0, s.values.length - 1)) {
            return -1;
        }
        int found = 0;
        for (P a : waiting) {
            if (a.wait.on == s) {
                Step t = a.wait.steps.get(a.wait.stoppedAt);
                found += t.counter() == counter && (t.change() == 0) == (what == 3) ? 1 : 0;
            }
        }
        return what == 0 ? s.values[counter] : what == 1 ? s.lasts[counter] : found;
    }

    int undo(int p, int slot, int counter) {
        S s = (S) sets.get(slot);
        boolean is = s != null && in(p, 0, all.size() - 1) && in(counter, 0, s.values.length - 1);
        return is ? s.undoes[p][counter] : 0;
    }

    int count(int what) {
        switch (what) {
            case 0:
                return all.size();
            case 1:
                return (int) all.stream().filter(a -> !a.ended).count();
            case 2:
                return waiting.size();
            case 3:
                return queues.size();
            case 4:
                return sets.size();
            case 5:
                return queues.values().stream().mapToInt(t -> ((Q) t).bytes()).sum();
            case 6:
                return queues.values().stream().mapToInt(t -> ((Q) t).posts.size()).sum();
            default:
                return -4;
        }
    }
}

import java.util.function.LongSupplier;

/**
 * Runs of calls drawn from a fixed seed, each answer held against the model's. No object has more calls than the 512 that
 * the document promises: the last ones of a run look at what is told, from another part of it on in each run.
 */
public final class RandomRunsTest extends Check {
    private static final int RUNS = 12000, CALLS = 512, PARTS = 7;
    private static final int[] ODD = {-1, Integer.MIN_VALUE, Integer.MAX_VALUE, 12, 16, 64, 65, 99, 100, 256, 512, 1001, 2048, 32768, -32768, 1000001};
    private static final long[] ODD_TYPES = {Long.MIN_VALUE, Long.MIN_VALUE + 1, Long.MAX_VALUE, Long.MAX_VALUE - 1, 1L << 33};

    private final QueuesAndGates x = new QueuesAndGates();
    private final Model m = new Model();
    private final int wildness;
    private final int processes;
    private final int things;
    private final int bias;
    private final long run;
    private final int played;
    private int used = 0;
    private long seed;

    private RandomRunsTest(long run) {
        this.run = run;
        seed = run * 7919 + 17;
        draw(2);
        wildness = draw(3) == 0 ? 10 : 60;
        processes = 2 + draw(15);
        things = 1 + draw(13);
        bias = draw(4);
        played = draw(3) == 0 ? CALLS - 20 : 40 + draw(400);
    }

    public static void main(String[] args) {
        for (int run = 0; run < RUNS; run++) {
            new RandomRunsTest(run).play();
        }
        end();
    }

    /** One call of the object and of the model, as long as the object has one left. */
    private void ask(String call, LongSupplier got, LongSupplier want) {
        if (used < CALLS) {
            used++;
            long answer = got.getAsLong();
            long wanted = want.getAsLong();
            due(answer == wanted ? call : call + " as call " + used + " of run " + run, answer, wanted);
        }
    }

    private int draw(int below) {
        seed = seed * 6364136223846793005L + 1442695040888963407L;
        return (int) ((seed >>> 33) % below);
    }

    private int odd(int usual) {
        return draw(wildness) == 0 ? ODD[draw(ODD.length)] : usual;
    }

    private int p() {
        return odd(draw(processes));
    }

    private int n() {
        return odd(draw(3) == 0 ? draw(65) : draw(3) == 0 ? 64 : draw(6));
    }

    private int id() {
        int slot = draw(things);
        if (slot < 12 && draw(8) != 0) {
            int id = draw(2) == 0 ? m.queueOf(slot, 0) : m.setOf(slot, 0);
            return odd(id);
        }
        return odd(slot + 12 * draw(3));
    }

    private long type() {
        return draw(wildness) == 0 ? ODD_TYPES[draw(ODD_TYPES.length)] : 1 + draw(5) - (draw(60) == 0 ? 3 : 0);
    }

    private long wanted() {
        return draw(wildness) == 0 ? ODD_TYPES[draw(ODD_TYPES.length)] : draw(11) - 5;
    }

    private int mode() {
        return draw(3) == 0 ? draw(512) : 511;
    }

    private int change() {
        int kind = draw(12);
        return odd(kind == 0 ? draw(65535) - 32767 : kind < 3 ? 0 : draw(7) - 3);
    }

    private void play() {
        for (int call = 0; used < played; call++) {
            callProcesses(call);
            if (draw(16) == 0) {
                lookAtParts();
            }
        }
        int first = draw(PARTS);
        for (int part = 0; part < PARTS; part++) {
            lookAtPart((first + part) % PARTS);
        }
    }

    private void callProcesses(int call) {
        int kind = draw(100);
        if (call < processes || kind == 0) {
            int user = odd(draw(4));
            int group = odd(draw(3));
            ask("process", () -> x.process(user, group), () -> m.process(user, group));
        } else if (kind < 2) {
            int p = draw(3) == 0 ? p() : -1;
            ask("exit", () -> x.exit(p), () -> m.exit(p));
        } else if (kind < 6) {
            int p = p();
            ask("signal", () -> x.signal(p), () -> m.signal(p));
        } else if (kind < 12) {
            int p = p();
            int i = n();
            int v = odd(draw(256));
            ask("area", () -> x.area(p, i, v), () -> m.area(p, i, v));
        } else if (kind < 30) {
            callThings();
        } else if (bias == 0 || bias > 1 && draw(2) == 0) {
            callMessages();
        } else {
            callCounters();
        }
    }

    private void callThings() {
        int p = p();
        int key = odd(draw(5) == 0 ? 0 : draw(things) + 1);
        int way = odd((draw(5) == 0 ? 0 : 512) + (draw(6) == 0 ? 1024 : 0) + mode());
        int counters = draw(8) == 0 ? odd(draw(10)) : 3;
        int of = draw(40) == 0 ? odd(2) : draw(2);
        int id = id();
        switch (draw(8)) {
            case 0:
            case 1:
                ask("queue", () -> x.queue(p, key, way), () -> m.queue(p, key, way));
                break;
            case 2:
            case 3:
                ask("set", () -> x.set(p, key, counters, way), () -> m.set(p, key, counters, way));
                break;
            case 4:
                if (draw(4) == 0) {
                    ask("remove", () -> x.remove(p, of, id), () -> m.remove(p, of, id));
                }
                break;
            case 5:
                int user = odd(draw(4));
                int group = odd(draw(3));
                int mode = odd(mode());
                ask("own", () -> x.own(p, of, id, user, group, mode), () -> m.own(p, of, id, user, group, mode));
                break;
            default:
                int bytes = odd(draw(3) == 0 ? draw(1001) : draw(80));
                ask("room", () -> x.room(p, id, bytes), () -> m.room(p, id, bytes));
        }
    }

    private void callMessages() {
        int p = p();
        int id = id();
        int n = n();
        if (draw(20) < 11) {
            long type = type();
            boolean nowait = draw(3) != 0;
            ask("send", () -> x.send(p, id, type, n, nowait), () -> m.send(p, id, type, n, nowait));
        } else {
            long wanted = wanted();
            int way = odd(draw(8) | draw(2));
            ask("take", () -> x.take(p, id, n, wanted, way), () -> m.take(p, id, n, wanted, way));
        }
    }

    private void callCounters() {
        int p = p();
        int id = id();
        for (int i = draw(5) == 0 ? draw(12) : draw(3); i >= 0; i--) {
            int counter = odd(draw(12) == 0 ? draw(8) : draw(3));
            int change = change();
            int way = odd(draw(3) == 0 ? draw(4) : draw(2) * 2);
            ask("step", () -> x.step(p, counter, change, way), () -> m.step(p, counter, change, way));
        }
        if (draw(20) == 0) {
            int counter = odd(draw(3));
            int v = odd(draw(3) == 0 ? draw(32768) : draw(5));
            ask("value", () -> x.value(p, id, counter, v), () -> m.value(p, id, counter, v));
        } else {
            ask("steps", () -> x.steps(p, id), () -> m.steps(p, id));
        }
    }

    private void lookAtParts() {
        int a = odd(draw(14) - 1);
        int b = odd(draw(14) - 1);
        int c = odd(draw(14) - 1);
        ask("queueOf", () -> x.queueOf(a, b), () -> m.queueOf(a, b));
        ask("message", () -> x.message(a, b, c), () -> m.message(a, b, c));
        ask("setOf", () -> x.setOf(a, b), () -> m.setOf(a, b));
        ask("counter", () -> x.counter(a, b, c), () -> m.counter(a, b, c));
        ask("undo", () -> x.undo(a, b, c), () -> m.undo(a, b, c));
        ask("count", () -> x.count(a), () -> m.count(a));
        ask("result", () -> x.result(a), () -> m.result(a));
        ask("areaAt", () -> x.areaAt(a, b), () -> m.areaAt(a, b));
        ask("taken", () -> x.taken(a), () -> m.taken(a));
    }

    private void lookAtPart(int part) {
        switch (part) {
            case 0:
                for (int what = 0; what < 7; what++) {
                    int each = what;
                    ask("count", () -> x.count(each), () -> m.count(each));
                }
                break;
            case 1:
                lookAtProcesses();
                break;
            case 2:
                lookAtAreas();
                break;
            case 3:
                lookAtThings();
                break;
            case 4:
                lookAtMessages();
                break;
            case 5:
                lookAtCounters();
                break;
            default:
                lookAtUndoes();
        }
    }

    private void lookAtProcesses() {
        for (int each = 0; each < processes; each++) {
            int p = each;
            ask("result", () -> x.result(p), () -> m.result(p));
            ask("taken", () -> x.taken(p), () -> m.taken(p));
        }
    }

    private void lookAtAreas() {
        int first = draw(processes);
        for (int k = 0; k < 4 * 64; k++) {
            int p = (first + k / 64) % processes;
            int i = k % 64;
            ask("areaAt", () -> x.areaAt(p, i), () -> m.areaAt(p, i));
        }
    }

    private void lookAtThings() {
        for (int k = 0; k < 12 * 12; k++) {
            int slot = k / 12;
            int what = k % 12;
            if (m.queueOf(slot, 0) >= 0) {
                ask("queueOf", () -> x.queueOf(slot, what), () -> m.queueOf(slot, what));
            }
            if (m.setOf(slot, 0) >= 0) {
                ask("setOf", () -> x.setOf(slot, what), () -> m.setOf(slot, what));
            }
        }
    }

    private void lookAtMessages() {
        int first = draw(12);
        for (int k = 0; k < 12 * 41 && used < CALLS; k++) {
            int slot = (first + k / 41) % 12;
            int i = k % 41;
            for (int each = 0; each < 68 && i <= m.queueOf(slot, 9) && each - 3 <= m.message(slot, i, 1); each++) {
                int what = each;
                ask("message", () -> x.message(slot, i, what), () -> m.message(slot, i, what));
            }
        }
    }

    private void lookAtCounters() {
        int first = draw(12);
        for (int k = 0; k < 12 * 9 * 4; k++) {
            int slot = (first + k / 36) % 12;
            int c = k / 4 % 9;
            int what = k % 4;
            if (m.setOf(slot, 7) >= c) {
                ask("counter", () -> x.counter(slot, c, what), () -> m.counter(slot, c, what));
            }
        }
    }

    private void lookAtUndoes() {
        int first = draw(12);
        for (int k = 0; k < 12 * 9 * 16 && used < CALLS; k++) {
            int slot = (first + k / 144) % 12;
            int c = k / 16 % 9;
            int p = k % 16;
            if (m.setOf(slot, 7) >= c && p <= processes) {
                ask("undo", () -> x.undo(p, slot, c), () -> m.undo(p, slot, c));
            }
        }
    }
}

/** Runs of calls drawn from a fixed seed, each answer held against the model's; and now and then all that is told. */
public final class RandomRunsTest extends Check {
    private static final int RUNS = 2000, CALLS = 512;
    private static final int[] ODD = {-1, Integer.MIN_VALUE, Integer.MAX_VALUE, 12, 16, 64, 65, 99, 100, 256, 512, 1001, 2048, 32768, -32768, 1000001};
    private static final long[] ODD_TYPES = {Long.MIN_VALUE, Long.MIN_VALUE + 1, Long.MAX_VALUE, Long.MAX_VALUE - 1, 1L << 33};

    private final QueuesAndGates x = new QueuesAndGates();
    private final Model m = new Model();
    private final int wildness;
    private final int processes;
    private final int things;
    private final int bias;
    private long seed;

    private RandomRunsTest(long run) {
        seed = run * 7919 + 17;
        draw(2);
        wildness = draw(3) == 0 ? 10 : 60;
        processes = 2 + draw(15);
        things = 1 + draw(13);
        bias = draw(4);
    }

    public static void main(String[] args) {
        for (int run = 0; run < RUNS; run++) {
            new RandomRunsTest(run).play();
        }
        end();
    }

    private int draw(int below) {
        seed = seed * 6364136223846793005L + 1442695040888963407L;
        return (int) ((seed >>> 33) % below);
    }

    private int odd(int usual) {
        return draw(wildness) == 0 ? ODD[draw(ODD.length)] : usual;
    }

    private int p() {
        return odd(draw(processes));
    }

    private int n() {
        return odd(draw(3) == 0 ? draw(65) : draw(3) == 0 ? 64 : draw(6));
    }

    private int id() {
        int slot = draw(things);
        if (slot < 12 && draw(8) != 0) {
            int id = draw(2) == 0 ? x.queueOf(slot, 0) : x.setOf(slot, 0);
            return odd(id);
        }
        return odd(slot + 12 * draw(3));
    }

    private long type() {
        return draw(wildness) == 0 ? ODD_TYPES[draw(ODD_TYPES.length)] : 1 + draw(5) - (draw(60) == 0 ? 3 : 0);
    }

    private long wanted() {
        return draw(wildness) == 0 ? ODD_TYPES[draw(ODD_TYPES.length)] : draw(11) - 5;
    }

    private int mode() {
        return draw(3) == 0 ? draw(512) : 511;
    }

    private int change() {
        int kind = draw(12);
        return odd(kind == 0 ? draw(65535) - 32767 : kind < 3 ? 0 : draw(7) - 3);
    }

    private void play() {
        for (int call = 0; call < CALLS; call++) {
            callProcesses(call);
            if (draw(16) == 0) {
                lookAtParts();
            }
            if (call % 64 == 63) {
                lookAtAll();
            }
        }
    }

    private void callProcesses(int call) {
        int kind = draw(100);
        if (call < processes || kind == 0) {
            int user = odd(draw(4));
            int group = odd(draw(3));
            due("process", x.process(user, group), m.process(user, group));
        } else if (kind < 2) {
            int p = draw(3) == 0 ? p() : -1;
            due("exit", x.exit(p), m.exit(p));
        } else if (kind < 6) {
            int p = p();
            due("signal", x.signal(p), m.signal(p));
        } else if (kind < 12) {
            int p = p();
            int i = n();
            int v = odd(draw(256));
            due("area", x.area(p, i, v), m.area(p, i, v));
        } else if (kind < 30) {
            callThings();
        } else if (bias == 0 || bias > 1 && draw(2) == 0) {
            callMessages();
        } else {
            callCounters();
        }
    }

    private void callThings() {
        int p = p();
        int key = odd(draw(5) == 0 ? 0 : draw(things) + 1);
        int way = odd((draw(5) == 0 ? 0 : 512) + (draw(6) == 0 ? 1024 : 0) + mode());
        int counters = draw(8) == 0 ? odd(draw(10)) : 3;
        int of = draw(40) == 0 ? odd(2) : draw(2);
        int id = id();
        switch (draw(8)) {
            case 0:
            case 1:
                due("queue", x.queue(p, key, way), m.queue(p, key, way));
                break;
            case 2:
            case 3:
                due("set", x.set(p, key, counters, way), m.set(p, key, counters, way));
                break;
            case 4:
                if (draw(4) == 0) {
                    due("remove", x.remove(p, of, id), m.remove(p, of, id));
                }
                break;
            case 5:
                int user = odd(draw(4));
                int group = odd(draw(3));
                int mode = odd(mode());
                due("own", x.own(p, of, id, user, group, mode), m.own(p, of, id, user, group, mode));
                break;
            default:
                int bytes = odd(draw(3) == 0 ? draw(1001) : draw(80));
                due("room", x.room(p, id, bytes), m.room(p, id, bytes));
        }
    }

    private void callMessages() {
        int p = p();
        int id = id();
        int n = n();
        if (draw(20) < 11) {
            long type = type();
            boolean nowait = draw(3) != 0;
            due("send", x.send(p, id, type, n, nowait), m.send(p, id, type, n, nowait));
        } else {
            long wanted = wanted();
            int way = odd(draw(8) | draw(2));
            due("take", x.take(p, id, n, wanted, way), m.take(p, id, n, wanted, way));
        }
    }

    private void callCounters() {
        int p = p();
        int id = id();
        for (int i = draw(5) == 0 ? draw(12) : draw(3); i >= 0; i--) {
            int counter = odd(draw(12) == 0 ? draw(8) : draw(3));
            int change = change();
            int way = odd(draw(3) == 0 ? draw(4) : draw(2) * 2);
            due("step", x.step(p, counter, change, way), m.step(p, counter, change, way));
        }
        if (draw(20) == 0) {
            int counter = odd(draw(3));
            int v = odd(draw(3) == 0 ? draw(32768) : draw(5));
            due("value", x.value(p, id, counter, v), m.value(p, id, counter, v));
        } else {
            due("steps", x.steps(p, id), m.steps(p, id));
        }
    }

    private void lookAtParts() {
        int a = odd(draw(14) - 1);
        int b = odd(draw(14) - 1);
        int c = odd(draw(14) - 1);
        due("queueOf", x.queueOf(a, b), m.queueOf(a, b));
        due("message", x.message(a, b, c), m.message(a, b, c));
        due("setOf", x.setOf(a, b), m.setOf(a, b));
        due("counter", x.counter(a, b, c), m.counter(a, b, c));
        due("undo", x.undo(a, b, c), m.undo(a, b, c));
        due("count", x.count(a), m.count(a));
        due("result", x.result(a), m.result(a));
        due("areaAt", x.areaAt(a, b), m.areaAt(a, b));
        due("taken", x.taken(a), m.taken(a));
    }

    private void lookAtAll() {
        for (int what = 0; what < 7; what++) {
            due("count", x.count(what), m.count(what));
        }
        for (int p = 0; p < 16; p++) {
            due("result", x.result(p), m.result(p));
            due("taken", x.taken(p), m.taken(p));
            for (int i = 0; i < 64; i++) {
                due("areaAt", x.areaAt(p, i), m.areaAt(p, i));
            }
        }
        for (int slot = 0; slot < 12; slot++) {
            for (int what = 0; what < 12; what++) {
                due("queueOf", x.queueOf(slot, what), m.queueOf(slot, what));
                due("setOf", x.setOf(slot, what), m.setOf(slot, what));
            }
            for (int i = 0; i < 41 && x.queueOf(slot, 9) > 0; i++) {
                for (int what = 0; what < 68; what++) {
                    due("message", x.message(slot, i, what), m.message(slot, i, what));
                }
            }
            for (int c = 0; c < 9; c++) {
                for (int what = 0; what < 4; what++) {
                    due("counter", x.counter(slot, c, what), m.counter(slot, c, what));
                }
                for (int p = 0; p < 16; p++) {
                    due("undo", x.undo(p, slot, c), m.undo(p, slot, c));
                }
            }
        }
    }
}

/** Promises 1 to 8: a new object, processes, their ends, signals, results and areas. */
public final class ProcessesTest extends Check {
    public static void main(String[] args) {
        newObject();
        process();
        exitUndoes();
        exitHoldsValues();
        exitServesByStages();
        exitOfAWaiter();
        signal();
        results();
        areas();
        taken();
        end();
    }

    // promise 1
    private static void newObject() {
        QueuesAndGates x = new QueuesAndGates();
        for (int what = 0; what <= 6; what++) {
            due("count(" + what + ")", x.count(what), 0);
        }
        for (int slot = 0; slot < 12; slot++) {
            due("queueOf", x.queueOf(slot, 0), NONE);
            due("setOf", x.setOf(slot, 0), NONE);
        }
        due("result", x.result(0), UNKNOWN);
        due("queue of none", x.queue(0, 1, 512), UNKNOWN);
    }

    // promise 2
    private static void process() {
        QueuesAndGates x = new QueuesAndGates();
        due("user -1", x.process(-1, 0), OUTSIDE);
        due("user 100", x.process(100, 0), OUTSIDE);
        due("group -1", x.process(0, -1), OUTSIDE);
        due("group 100", x.process(0, 100), OUTSIDE);
        due("count(0)", x.count(0), 0);
        for (int p = 0; p < 16; p++) {
            due("process", x.process(99, 99), p);
            due("result", x.result(p), 0);
        }
        due("a number too many", x.process(0, 0), FULL);
        due("OUTSIDE ahead of FULL", x.process(0, 100), OUTSIDE);
        due("exit", x.exit(3), 1);
        due("ended ones keep their numbers", x.process(0, 0), FULL);
        due("count(0)", x.count(0), 16);
        due("count(1)", x.count(1), 15);
    }

    // promise 3
    private static void exitUndoes() {
        QueuesAndGates x = withProcesses(4);
        due("unknown", x.exit(4), UNKNOWN);
        due("unknown", x.exit(-1), UNKNOWN);
        due("set", x.set(1, 7, 3, 1023), 0);
        due("steps", stepped(x, 1, 0, 0, 9, 2), 0);
        due("steps", stepped(x, 1, 0, 1, 4, 0), 0);
        due("steps", stepped(x, 2, 0, 0, -2, 2), 0);
        due("queue refused", x.queue(1, -1, 0), OUTSIDE);
        due("exit", x.exit(1), 1);
        due("no RESULT of exit", x.result(1), OUTSIDE);
        due("value", x.counter(0, 0, 0), 0);
        due("last", x.counter(0, 0, 1), 1);
        due("without undo", x.counter(0, 1, 0), 4);
        due("its undo", x.undo(1, 0, 0), 0);
        due("another's undo", x.undo(2, 0, 0), 2);
        due("again", x.exit(1), NOT);
        due("no more calls", x.queue(1, 0, 0), NOT);
        due("no more steps", x.step(1, 0, 1, 0), NOT);
        due("no signal", x.signal(1), NOT);
        due("exit", x.exit(2), 1);
        due("value", x.counter(0, 0, 0), 2);
        due("last", x.counter(0, 0, 1), 2);
        due("count(1)", x.count(1), 2);
    }

    private static void exitHoldsValues() {
        QueuesAndGates x = withProcesses(4);
        due("set", x.set(0, 0, 2, 511), 0);
        due("steps", stepped(x, 1, 0, 0, 30000, 2), 0);
        due("steps", stepped(x, 1, 0, 0, -30000, 0), 0);
        due("last", stepped(x, 2, 0, 1, 1, 0), 0);
        due("steps", stepped(x, 2, 0, 0, 0, 0), 0);
        due("exit", x.exit(1), 1);
        due("held at 0", x.counter(0, 0, 0), 0);
        due("last, though the value stays", x.counter(0, 0, 1), 1);
        due("last of the other", x.counter(0, 1, 1), 2);
        due("steps", stepped(x, 2, 0, 0, 20000, 0), 0);
        due("steps", stepped(x, 2, 0, 0, -20000, 2), 0);
        due("steps", stepped(x, 3, 0, 0, 30000, 0), 0);
        due("exit", x.exit(2), 1);
        due("held at 32767", x.counter(0, 0, 0), 32767);
        due("last", x.counter(0, 0, 1), 2);
    }

    private static void exitServesByStages() {
        QueuesAndGates x = withProcesses(6);
        due("set", x.set(0, 0, 1, 511), 0);
        due("set", x.set(0, 0, 1, 511), 1);
        due("steps", stepped(x, 1, 0, 0, 1, 0), 0);
        due("steps", stepped(x, 1, 1, 0, 1, 0), 0);
        due("steps", stepped(x, 1, 0, 0, -1, 2), 0);
        due("steps", stepped(x, 1, 1, 0, -1, 2), 0);
        due("steps", stepped(x, 2, 1, 0, -1, 0), PENDING);
        due("steps", stepped(x, 3, 0, 0, -1, 0), PENDING);
        due("exit", x.exit(1), 1);
        due("of set 0", x.result(3), 0);
        due("of set 1", x.result(2), 0);
        due("value", x.counter(0, 0, 0), 0);
        due("last is the served one", x.counter(0, 0, 1), 3);
        due("last is the served one", x.counter(1, 0, 1), 2);
    }

    private static void exitOfAWaiter() {
        QueuesAndGates x = withProcesses(3);
        due("set", x.set(0, 0, 2, 511), 0);
        due("steps", stepped(x, 1, 0, 0, 3, 2), 0);
        due("steps", stepped(x, 1, 0, 1, -1, 0), PENDING);
        due("steps", stepped(x, 2, 0, 0, 0, 0), PENDING);
        due("exit", x.exit(1), 1);
        due("cut off", x.result(1), CUTOFF);
        due("served by the undone", x.result(2), 0);
        due("count(2)", x.count(2), 0);
        due("stays so", x.result(1), CUTOFF);
    }

    // promise 4
    private static void signal() {
        QueuesAndGates x = withProcesses(3);
        due("unknown", x.signal(3), UNKNOWN);
        due("unknown", x.signal(-1), UNKNOWN);
        due("not waiting", x.signal(1), NOT);
        due("queue", x.queue(1, 1, 1023), 0);
        due("RESULT stays", x.signal(1), NOT);
        due("result", x.result(1), 0);
        due("take", x.take(1, 0, 9, 0, 0), PENDING);
        due("count(2)", x.count(2), 1);
        due("signal", x.signal(1), 1);
        due("result", x.result(1), CUTOFF);
        due("count(2)", x.count(2), 0);
        sent(x, 2, 0, 5, 1, 1, 0);
        due("in the row", x.count(6), 1);
        due("the other is free again", x.take(1, 0, 9, 0, 1), 1);
    }

    // promise 5
    private static void results() {
        QueuesAndGates x = withProcesses(3);
        due("unknown", x.result(3), UNKNOWN);
        due("unknown", x.result(Integer.MIN_VALUE), UNKNOWN);
        due("none yet", x.result(1), 0);
        due("queue", x.queue(1, 3, 0), ABSENT);
        due("refusals are told", x.result(1), ABSENT);
        due("queue", x.queue(1, 0, 511), 0);
        due("queue", x.queue(1, 0, 511), 1);
        due("an id", x.result(1), 1);
        due("step", x.step(1, 0, 1, 0), 1);
        due("step refused", x.step(1, 9, 1, 0), OUTSIDE);
        due("area", x.area(1, 0, 7), 0);
        due("areaAt", x.areaAt(1, 0), 7);
        due("taken", x.taken(1), 0);
        due("no RESULT of these", x.result(1), 1);
        due("take", x.take(1, 1, 1, 0, 0), PENDING);
        due("pending", x.result(1), PENDING);
        due("refused as it waits", x.queue(1, 0, 511), NOT);
        due("RESULT stays", x.result(1), PENDING);
        due("of the others", x.result(2), 0);
    }

    // promises 6 and 7
    private static void areas() {
        QueuesAndGates x = withProcesses(2);
        due("unknown", x.area(2, 0, 0), UNKNOWN);
        due("unknown", x.area(-1, 64, 0), UNKNOWN);
        due("i", x.area(1, -1, 0), OUTSIDE);
        due("i", x.area(1, 64, 0), OUTSIDE);
        due("v", x.area(1, 0, -1), OUTSIDE);
        due("v", x.area(1, 0, 256), OUTSIDE);
        due("what it was", x.area(1, 63, 255), 0);
        due("what it was", x.area(1, 63, 4), 255);
        due("areaAt", x.areaAt(1, 63), 4);
        due("another's", x.areaAt(0, 63), 0);
        due("areaAt", x.areaAt(1, 62), 0);
        due("unknown", x.areaAt(2, 0), UNKNOWN);
        due("unknown", x.areaAt(-1, -1), UNKNOWN);
        due("i", x.areaAt(1, -1), OUTSIDE);
        due("i", x.areaAt(1, 64), OUTSIDE);
        due("queue", x.queue(1, 0, 511), 0);
        due("take", x.take(1, 0, 1, 0, 0), PENDING);
        due("as it waits", x.area(1, 0, 3), 0);
        due("exit", x.exit(1), 1);
        due("after its end", x.area(1, 0, 5), 3);
        due("after its end", x.areaAt(1, 0), 5);
    }

    // promise 8
    private static void taken() {
        QueuesAndGates x = withProcesses(2);
        due("unknown", x.taken(2), UNKNOWN);
        due("unknown", x.taken(-1), UNKNOWN);
        due("none", x.taken(1), 0);
        due("queue", x.queue(1, 0, 511), 0);
        sent(x, 1, 0, Long.MAX_VALUE, 2, 1, 0);
        due("too big", x.take(1, 0, 1, 0, 1), TOOBIG);
        due("none of one too big", x.taken(1), 0);
        due("take", x.take(1, 0, 2, 0, 1), 2);
        due("taken", x.taken(1), Long.MAX_VALUE);
        due("of the other", x.taken(0), 0);
        due("take", x.take(1, 0, 2, 0, 1), NOMESSAGE);
        due("stays", x.taken(1), Long.MAX_VALUE);
        due("take", x.take(1, 0, 2, 0, 0), PENDING);
        sent(x, 0, 0, 3, 1, 1, 0);
        due("by waiting", x.taken(1), 3);
        due("exit", x.exit(1), 1);
        due("after its end", x.taken(1), 3);
    }
}

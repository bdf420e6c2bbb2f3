/** Promises 19 to 24: what is told of queues, messages, sets, counters, undoes, and of all. */
public final class ToldTest extends Check {
    private static final int[] NO_SLOTS = {-1, 12, -12, 24, Integer.MIN_VALUE, Integer.MAX_VALUE};

    public static void main(String[] args) {
        queueOf();
        message();
        setOf();
        counter();
        undo();
        count();
        end();
    }

    // promise 19
    private static void queueOf() {
        QueuesAndGates x = new QueuesAndGates();
        x.process(3, 4);
        x.process(0, 9);
        x.process(8, 8);
        due("queue", x.queue(1, 77, 512 + 0123), 0);
        due("queue", x.queue(0, 78, 512 + 0666), 1);
        due("own", x.own(0, 0, 1, 5, 6, 0662), 0);
        due("send", x.send(1, 1, 1, 20, true), 0);
        due("send", x.send(1, 1, 1, 11, true), 0);
        due("room", x.room(1, 1, 40), 0);
        due("send", x.send(2, 1, 1, 30, false), PENDING);
        due("take", x.take(1, 1, 1, 2, 0), PENDING);
        int[] want = {1, 78, 5, 6, 3, 4, 0662, 31, 40, 2, 1, 1};
        for (int what = 0; what < want.length; what++) {
            due("queueOf(1, " + what + ")", x.queueOf(1, what), want[what]);
        }
        int[] first = {0, 77, 0, 9, 0, 9, 0123, 0, 256, 0, 0, 0};
        for (int what = 0; what < first.length; what++) {
            due("queueOf(0, " + what + ")", x.queueOf(0, what), first[what]);
            due("none", x.queueOf(2, what), NONE);
        }
        due("what", x.queueOf(1, 12), OUTSIDE);
        due("what", x.queueOf(1, -1), OUTSIDE);
        due("what of none", x.queueOf(2, 12), OUTSIDE);
        due("the last slot", x.queueOf(11, 0), NONE);
        for (int what = 0; what < 12; what++) {
            for (int slot : NO_SLOTS) {
                due("no such slot", x.queueOf(slot, what), NONE);
            }
        }
    }

    // promise 20
    private static void message() {
        QueuesAndGates x = withProcesses(2);
        due("queue", x.queue(1, 0, 511), 0);
        due("no message", x.message(0, 0, 0), -1);
        sent(x, 1, 0, 1L << 40, 3, 200, 0);
        sent(x, 1, 0, 6, 64, 255, 0);
        sent(x, 1, 0, 7, 0, 0, 0);
        due("type", x.message(0, 0, 0), 1L << 40);
        due("bytes", x.message(0, 0, 1), 3);
        due("byte", x.message(0, 0, 2), 200);
        due("byte", x.message(0, 0, 4), 200);
        due("beyond it", x.message(0, 0, 5), -1);
        due("byte", x.message(0, 1, 65), 255);
        due("beyond it", x.message(0, 1, 66), -1);
        due("beyond it", x.message(0, 1, Integer.MAX_VALUE), -1);
        due("bytes", x.message(0, 2, 1), 0);
        due("beyond it", x.message(0, 2, 2), -1);
        due("what", x.message(0, 0, -1), -1);
        due("what", x.message(0, 0, Integer.MIN_VALUE), -1);
        due("i", x.message(0, 3, 0), -1);
        due("i", x.message(0, -1, 0), -1);
        due("i", x.message(0, 40, 0), -1);
        due("slot", x.message(1, 0, 0), -1);
        due("slot", x.message(12, 0, 0), -1);
        due("slot", x.message(-1, 0, 0), -1);
        due("take", x.take(1, 0, 64, 6, 1), 64);
        due("comes up", x.message(0, 1, 0), 7);
        due("none behind", x.message(0, 2, 0), -1);
        due("a shorter one in an old place", x.send(1, 0, 9, 1, true), 0);
        due("bytes", x.message(0, 2, 1), 1);
        due("beyond it", x.message(0, 2, 3), -1);
    }

    // promise 21
    private static void setOf() {
        QueuesAndGates x = new QueuesAndGates();
        x.process(3, 4);
        x.process(0, 9);
        due("set", x.set(0, 55, 6, 512 + 0654), 0);
        due("own", x.own(0, 1, 0, 1, 2, 0653), 0);
        due("waits", stepped(x, 1, 0, 5, -1, 0), PENDING);
        int[] want = {0, 55, 1, 2, 3, 4, 0653, 6, 1};
        for (int what = 0; what < want.length; what++) {
            due("setOf(0, " + what + ")", x.setOf(0, what), want[what]);
            due("none", x.setOf(1, what), NONE);
        }
        due("what", x.setOf(0, 9), OUTSIDE);
        due("what", x.setOf(0, -1), OUTSIDE);
        due("what of none", x.setOf(1, 9), OUTSIDE);
        due("the last slot", x.setOf(11, 0), NONE);
        for (int what = 0; what < 9; what++) {
            for (int slot : NO_SLOTS) {
                due("no such slot", x.setOf(slot, what), NONE);
            }
        }
    }

    // promise 22
    private static void counter() {
        QueuesAndGates x = withProcesses(6);
        due("set", x.set(1, 1, 2, 1023), 0);
        due("value", x.counter(0, 1, 0), 0);
        due("last", x.counter(0, 1, 1), NONE);
        due("value", x.value(1, 0, 1, 9), 0);
        due("value", x.counter(0, 1, 0), 9);
        due("last", x.counter(0, 1, 1), 1);
        due("waits to grow", stepped(x, 2, 0, 1, -10, 0), PENDING);
        due("waits to be 0", stepped(x, 3, 0, 1, 0, 0), PENDING);
        due("waits to be 0", stepped(x, 4, 0, 1, 0, 2), PENDING);
        due("waits on the other", stepped(x, 5, 0, 0, -1, 0), PENDING);
        due("to grow", x.counter(0, 1, 2), 1);
        due("to be 0", x.counter(0, 1, 3), 2);
        due("to grow", x.counter(0, 0, 2), 1);
        due("to be 0", x.counter(0, 0, 3), 0);
        due("signal", x.signal(4), 1);
        due("to be 0", x.counter(0, 1, 3), 1);
        due("what", x.counter(0, 0, 4), OUTSIDE);
        due("what", x.counter(0, 0, -1), OUTSIDE);
        due("what of none", x.counter(20, 20, 4), OUTSIDE);
        due("no counter", x.counter(0, 2, 0), NONE);
        due("no counter", x.counter(0, -1, 0), NONE);
        due("no set", x.counter(1, 0, 2), NONE);
        due("no slot", x.counter(12, 0, 0), NONE);
        due("no slot", x.counter(-1, 0, 0), NONE);
    }

    // promise 23
    private static void undo() {
        QueuesAndGates x = withProcesses(2);
        due("set", x.set(1, 1, 2, 1023), 0);
        due("steps", stepped(x, 1, 0, 1, 9, 2), 0);
        due("undo", x.undo(1, 0, 1), -9);
        due("undo", x.undo(1, 0, 0), 0);
        due("another's", x.undo(0, 0, 1), 0);
        due("no process", x.undo(2, 0, 1), 0);
        due("no process", x.undo(-1, 0, 1), 0);
        due("no process", x.undo(16, 0, 1), 0);
        due("no counter", x.undo(1, 0, 2), 0);
        due("no counter", x.undo(1, 0, -1), 0);
        due("no set", x.undo(1, 1, 1), 0);
        due("no slot", x.undo(1, 12, 1), 0);
        due("no slot", x.undo(1, -1, 1), 0);
        due("another's steps", stepped(x, 0, 0, 1, -4, 2), 0);
        due("another's", x.undo(0, 0, 1), 4);
        due("stays", x.undo(1, 0, 1), -9);
    }

    // promise 24
    private static void count() {
        QueuesAndGates x = withProcesses(5);
        due("queue", x.queue(0, 0, 511), 0);
        due("queue", x.queue(0, 0, 511), 1);
        due("queue", x.queue(0, 0, 511), 2);
        due("set", x.set(0, 0, 1, 511), 0);
        due("set", x.set(0, 0, 1, 511), 1);
        due("remove", x.remove(0, 0, 0), 0);
        due("send", x.send(1, 1, 1, 30, true), 0);
        due("send", x.send(1, 2, 1, 12, true), 0);
        due("send", x.send(1, 2, 1, 0, true), 0);
        due("take waits", x.take(2, 1, 1, 2, 0), PENDING);
        due("steps wait", stepped(x, 3, 1, 0, -1, 0), PENDING);
        due("exit", x.exit(4), 1);
        int[] want = {5, 4, 2, 2, 2, 42, 3};
        for (int what = 0; what < want.length; what++) {
            due("count(" + what + ")", x.count(what), want[what]);
        }
        due("what", x.count(7), OUTSIDE);
        due("what", x.count(-1), OUTSIDE);
        due("what", x.count(Integer.MIN_VALUE), OUTSIDE);
    }
}

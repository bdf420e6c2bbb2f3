/** The edges that promises 19 to 24 name: a method for each sentence, on an object of its own. */
public final class EdgesOfToldTest extends Check {
    private static final int[] NO_SLOTS = {-1, -12, 12, 13, 24, Integer.MIN_VALUE, Integer.MIN_VALUE + 8, Integer.MAX_VALUE};

    public static void main(String[] args) {
        queueOfNone();
        queueOfNoSlot();
        queueOfOutside();
        queueOfAnEmptyOne();
        queueOfAFullOne();
        messageOfNoQueue();
        messageOfNoPlace();
        messageOfNoByte();
        setOfNone();
        setOfNoSlot();
        setOfOutside();
        counterOfNoSet();
        counterOfNoCounter();
        counterOutside();
        counterLastIsNone();
        counterThatNoneWaitsFor();
        undoOfNoProcess();
        undoOfNoSet();
        undoOfNoCounter();
        undoAtItsEnds();
        countAtFirst();
        countOutside();
        countOfAll();
        noResultComesOfIt();
        end();
    }

    // Promise 19: "NONE: there is none."
    private static void queueOfNone() {
        QueuesAndGates x = withProcesses(2);
        due("a set is none", x.set(0, 1, 1, 1023), 0);
        for (int what = 0; what <= 11; what++) {
            due("none yet", x.queueOf(0, what), NONE);
            due("none in the last", x.queueOf(11, what), NONE);
        }
        due("queue", x.queue(0, 1, 1023), 0);
        due("send", x.send(0, 0, 1, 3, true), 0);
        due("waits", x.take(1, 0, 3, 2, 0), PENDING);
        due("remove", x.remove(0, 0, 0), 0);
        for (int what = 0; what <= 11; what++) {
            due("none any more", x.queueOf(0, what), NONE);
        }
    }

    // Promise 19: "NONE: there is none": of a slot beside 0 .. 11 (issue 6)
    private static void queueOfNoSlot() {
        QueuesAndGates x = withProcesses(2);
        for (int slot = 0; slot < 12; slot++) {
            due("queue", x.queue(0, 0, 511), slot);
        }
        for (int slot : NO_SLOTS) {
            for (int what = 0; what <= 11; what++) {
                due("slot " + slot, x.queueOf(slot, what), NONE);
            }
        }
        due("the last", x.queueOf(11, 0), 11);
    }

    // Promise 19: "OUTSIDE."
    private static void queueOfOutside() {
        QueuesAndGates x = withProcesses(2);
        due("queue", x.queue(0, 1, 1023), 0);
        for (int what : new int[] {-1, 12, Integer.MIN_VALUE, Integer.MAX_VALUE}) {
            due("what " + what, x.queueOf(0, what), OUTSIDE);
        }
        due("least", x.queueOf(0, 0), 0);
        due("greatest", x.queueOf(0, 11), 0);
    }

    // Promise 19: "7 BYTES, 8 ROOM, 9 MESSAGES, 10 those that WAIT to SEND, 11 to TAKE": of an empty one
    private static void queueOfAnEmptyOne() {
        QueuesAndGates x = withProcesses(2);
        due("queue", x.queue(1, 0, 0), 0);
        int[] want = {0, 0, 1, 5, 1, 5, 0, 0, 256, 0, 0, 0};
        for (int what = 0; what < want.length; what++) {
            due("queueOf(0, " + what + ")", x.queueOf(0, what), want[what]);
        }
    }

    // Promise 19: the same of one that is full, with all that may WAIT on it
    private static void queueOfAFullOne() {
        QueuesAndGates x = withProcesses(16);
        due("queue", x.queue(0, 1000000, 1023), 0);
        due("room", x.room(0, 0, 1000), 0);
        for (int i = 0; i < 40; i++) {
            due("send", x.send(0, 0, 1, 25, true), 0);
        }
        for (int p = 1; p <= 8; p++) {
            due("waits to send", x.send(p, 0, 1, 0, false), PENDING);
        }
        for (int p = 9; p < 16; p++) {
            due("waits to take", x.take(p, 0, 0, 2, 0), PENDING);
        }
        int[] want = {0, 1000000, 0, 0, 0, 0, 511, 1000, 1000, 40, 8, 7};
        for (int what = 0; what < want.length; what++) {
            due("queueOf(0, " + what + ")", x.queueOf(0, what), want[what]);
        }
        due("wait", x.count(2), 15);
    }

    // Promise 20: "-1: there is none such": no QUEUE
    private static void messageOfNoQueue() {
        QueuesAndGates x = withProcesses(2);
        due("none yet", x.message(0, 0, 0), -1);
        due("queue", x.queue(0, 1, 1023), 0);
        due("send", x.send(0, 0, 7, 1, true), 0);
        for (int slot : NO_SLOTS) {
            due("slot " + slot, x.message(slot, 0, 0), -1);
        }
        due("another slot", x.message(1, 0, 0), -1);
        due("there is", x.message(0, 0, 0), 7);
        due("remove", x.remove(0, 0, 0), 0);
        due("none any more", x.message(0, 0, 0), -1);
        due("none any more", x.message(0, 0, 1), -1);
        due("anew", x.queue(0, 1, 1023), 12);
        due("none yet", x.message(0, 0, 0), -1);
    }

    // Promise 20: "-1: there is none such": no MESSAGE i
    private static void messageOfNoPlace() {
        QueuesAndGates x = withProcesses(2);
        due("queue", x.queue(0, 1, 1023), 0);
        due("of an empty one", x.message(0, 0, 0), -1);
        for (int i = 0; i < 40; i++) {
            due("send", x.send(0, 0, i + 1, 0, true), 0);
            due("the last", x.message(0, i, 0), i + 1);
            due("beyond it", x.message(0, i + 1, 0), -1);
        }
        for (int i : new int[] {-1, 40, 41, Integer.MIN_VALUE, Integer.MAX_VALUE}) {
            for (int what = 0; what < 3; what++) {
                due("message " + i, x.message(0, i, what), -1);
            }
        }
        due("take", x.take(1, 0, 0, 0, 1), 0);
        due("the last came up", x.message(0, 38, 0), 40);
        due("none is behind it", x.message(0, 39, 0), -1);
    }

    // Promise 20: "2 + k byte k. -1: there is none such": no byte, and no such what
    private static void messageOfNoByte() {
        QueuesAndGates x = withProcesses(2);
        due("queue", x.queue(0, 1, 1023), 0);
        for (int i = 0; i < 64; i++) {
            x.area(0, i, 255 - i);
        }
        due("send", x.send(0, 0, 7, 64, true), 0);
        due("send", x.send(0, 0, 7, 3, true), 0);
        due("send", x.send(0, 0, 7, 0, true), 0);
        due("the first", x.message(0, 0, 2), 255);
        due("the last", x.message(0, 0, 65), 192);
        due("beyond 64", x.message(0, 0, 66), -1);
        due("the last of 3", x.message(0, 1, 4), 253);
        due("beyond 3", x.message(0, 1, 5), -1);
        due("beyond 3", x.message(0, 1, 65), -1);
        due("none of 0", x.message(0, 2, 2), -1);
        for (int what : new int[] {-1, -2, Integer.MIN_VALUE, Integer.MIN_VALUE + 1, Integer.MIN_VALUE + 2, Integer.MAX_VALUE}) {
            due("what " + what, x.message(0, 0, what), -1);
        }
    }

    // Promise 21: "NONE: there is none."
    private static void setOfNone() {
        QueuesAndGates x = withProcesses(2);
        due("a queue is none", x.queue(0, 1, 1023), 0);
        for (int what = 0; what <= 8; what++) {
            due("none yet", x.setOf(0, what), NONE);
            due("none in the last", x.setOf(11, what), NONE);
        }
        due("set", x.set(0, 1, 2, 1023), 0);
        due("waits", stepped(x, 1, 0, 0, -1, 0), PENDING);
        due("remove", x.remove(0, 1, 0), 0);
        for (int what = 0; what <= 8; what++) {
            due("none any more", x.setOf(0, what), NONE);
        }
    }

    // Promise 21: "NONE: there is none": of a slot beside 0 .. 11 (issue 5)
    private static void setOfNoSlot() {
        QueuesAndGates x = withProcesses(2);
        for (int slot = 0; slot < 12; slot++) {
            due("set", x.set(0, 0, 1, 511), slot);
        }
        for (int slot : NO_SLOTS) {
            for (int what = 0; what <= 8; what++) {
                due("slot " + slot, x.setOf(slot, what), NONE);
            }
        }
        due("the last", x.setOf(11, 0), 11);
    }

    // Promise 21: "OUTSIDE."
    private static void setOfOutside() {
        QueuesAndGates x = withProcesses(2);
        due("set", x.set(0, 1, 8, 1023), 0);
        for (int what : new int[] {-1, 9, 11, Integer.MIN_VALUE, Integer.MAX_VALUE}) {
            due("what " + what, x.setOf(0, what), OUTSIDE);
        }
        due("least", x.setOf(0, 0), 0);
        due("counters", x.setOf(0, 7), 8);
        due("greatest", x.setOf(0, 8), 0);
    }

    // Promise 22: "NONE: there is none such": no SET
    private static void counterOfNoSet() {
        QueuesAndGates x = withProcesses(2);
        due("queue", x.queue(0, 1, 1023), 0);
        for (int what = 0; what <= 3; what++) {
            due("none yet", x.counter(0, 0, what), NONE);
        }
        due("set", x.set(0, 1, 1, 1023), 0);
        for (int slot : NO_SLOTS) {
            for (int what = 0; what <= 3; what++) {
                due("slot " + slot, x.counter(slot, 0, what), NONE);
            }
        }
        due("another slot", x.counter(1, 0, 0), NONE);
        due("remove", x.remove(0, 1, 0), 0);
        for (int what = 0; what <= 3; what++) {
            due("none any more", x.counter(0, 0, what), NONE);
        }
    }

    // Promise 22: "NONE: there is none such": no COUNTER
    private static void counterOfNoCounter() {
        QueuesAndGates x = withProcesses(2);
        for (int n = 1; n <= 8; n++) {
            due("set", x.set(0, 0, n, 511), n - 1);
            due("the last", x.counter(n - 1, n - 1, 0), 0);
            for (int c : new int[] {-1, n, 8, Integer.MIN_VALUE, Integer.MAX_VALUE}) {
                due("counter " + c + " of " + n, x.counter(n - 1, c, 0), NONE);
                due("to grow", x.counter(n - 1, c, 2), NONE);
            }
        }
        due("remove", x.remove(0, 1, 7), 0);
        due("a set of less in its slot", x.set(0, 0, 2, 511), 19);
        due("beyond it", x.counter(7, 2, 0), NONE);
    }

    // Promise 22: "OUTSIDE: what."
    private static void counterOutside() {
        QueuesAndGates x = withProcesses(2);
        due("set", x.set(0, 1, 1, 1023), 0);
        for (int what : new int[] {-1, 4, Integer.MIN_VALUE, Integer.MAX_VALUE}) {
            due("what " + what, x.counter(0, 0, what), OUTSIDE);
        }
        due("least", x.counter(0, 0, 0), 0);
        due("greatest", x.counter(0, 0, 3), 0);
    }

    // Terms 1: "LAST, a PROCESS (NONE)": of a new COUNTER, in a slot that was used, too
    private static void counterLastIsNone() {
        QueuesAndGates x = withProcesses(2);
        due("set", x.set(0, 1, 1, 1023), 0);
        due("none", x.counter(0, 0, 1), NONE);
        due("by process 0", stepped(x, 0, 0, 0, 0, 0), 0);
        due("process 0", x.counter(0, 0, 1), 0);
        due("remove", x.remove(0, 1, 0), 0);
        due("anew", x.set(0, 1, 1, 1023), 12);
        due("none", x.counter(0, 0, 1), NONE);
    }

    // Promise 22: "2 how many WAIT for it to grow, 3 for it to be 0 (by the STEP at which each STOPPED last)"
    private static void counterThatNoneWaitsFor() {
        QueuesAndGates x = withProcesses(6);
        due("set", x.set(0, 1, 3, 1023), 0);
        due("up", x.value(0, 0, 1, 1), 0);
        x.step(1, 1, -1, 0);
        x.step(1, 0, -1, 0);
        x.step(1, 2, -1, 0);
        due("stops at the second", x.steps(1, 0), PENDING);
        x.step(2, 0, 0, 0);
        x.step(2, 1, 0, 0);
        x.step(2, 2, 0, 0);
        due("stops at the second", x.steps(2, 0), PENDING);
        int[] grow = {1, 0, 0};
        int[] zero = {0, 1, 0};
        for (int c = 0; c < 3; c++) {
            due("to grow", x.counter(0, c, 2), grow[c]);
            due("to be 0", x.counter(0, c, 3), zero[c]);
        }
        due("exit", x.exit(1), 1);
        due("signal", x.signal(2), 1);
        for (int c = 0; c < 3; c++) {
            due("none to grow", x.counter(0, c, 2), 0);
            due("none to be 0", x.counter(0, c, 3), 0);
        }
    }

    // Promise 23: "0: there is none such": no PROCESS
    private static void undoOfNoProcess() {
        QueuesAndGates x = withProcesses(3);
        due("set", x.set(0, 1, 8, 1023), 0);
        for (int p = 0; p < 3; p++) {
            due("undo", stepped(x, p, 0, 0, 4, 2), 0);
            due("undo", stepped(x, p, 0, 7, 5, 2), 0);
        }
        for (int p : new int[] {-1, 3, 15, 16, Integer.MIN_VALUE, Integer.MAX_VALUE}) {
            due("process " + p, x.undo(p, 0, 0), 0);
            due("process " + p, x.undo(p, 0, 7), 0);
        }
        due("there is", x.undo(2, 0, 7), -5);
        due("exit", x.exit(2), 1);
        due("of one that ended", x.undo(2, 0, 7), 0);
    }

    // Promise 23: "0: there is none such": no SET
    private static void undoOfNoSet() {
        QueuesAndGates x = withProcesses(3);
        due("none yet", x.undo(1, 0, 0), 0);
        due("set", x.set(0, 1, 2, 1023), 0);
        due("undo", stepped(x, 1, 0, 0, 4, 2), 0);
        for (int slot : NO_SLOTS) {
            due("slot " + slot, x.undo(1, slot, 0), 0);
        }
        due("another slot", x.undo(1, 1, 0), 0);
        due("there is", x.undo(1, 0, 0), -4);
        due("remove", x.remove(0, 1, 0), 0);
        due("none any more", x.undo(1, 0, 0), 0);
    }

    // Promise 23: "0: there is none such": no COUNTER, of one beside it neither
    private static void undoOfNoCounter() {
        QueuesAndGates x = withProcesses(3);
        due("set", x.set(0, 1, 2, 1023), 0);
        for (int p = 0; p < 3; p++) {
            due("undo", stepped(x, p, 0, 0, 4, 2), 0);
            due("undo", stepped(x, p, 0, 1, 5, 2), 0);
        }
        for (int c : new int[] {-1, -7, -8, 2, 7, 8, 9, Integer.MIN_VALUE, Integer.MAX_VALUE}) {
            due("counter " + c, x.undo(1, 0, c), 0);
        }
        due("there is", x.undo(1, 0, 1), -5);
    }

    // Promise 23 and Terms 3: an UNDO is at most 32767 in size
    private static void undoAtItsEnds() {
        QueuesAndGates x = withProcesses(3);
        due("set", x.set(0, 1, 2, 1023), 0);
        due("up", stepped(x, 1, 0, 0, 32767, 2), 0);
        due("down", stepped(x, 2, 0, 0, -32767, 2), 0);
        due("least", x.undo(1, 0, 0), -32767);
        due("greatest", x.undo(2, 0, 0), 32767);
        due("exit", x.exit(1), 1);
        due("held", x.counter(0, 0, 0), 0);
        due("exit", x.exit(2), 1);
        due("back", x.counter(0, 0, 0), 32767);
    }

    // Promise 24: of a new object
    private static void countAtFirst() {
        QueuesAndGates x = new QueuesAndGates();
        for (int what = 0; what <= 6; what++) {
            due("count(" + what + ")", x.count(what), 0);
        }
    }

    // Promise 24: "OUTSIDE."
    private static void countOutside() {
        QueuesAndGates x = withProcesses(2);
        for (int what : new int[] {-1, 7, 8, Integer.MIN_VALUE, Integer.MAX_VALUE}) {
            due("what " + what, x.count(what), OUTSIDE);
        }
        due("least", x.count(0), 2);
        due("greatest", x.count(6), 0);
    }

    // Promise 24: as much of each as there may be
    private static void countOfAll() {
        QueuesAndGates x = withProcesses(16);
        for (int slot = 0; slot < 12; slot++) {
            due("queue", x.queue(0, 0, 511), slot);
            due("set", x.set(0, 0, 1, 511), slot);
            due("room", x.room(0, slot, 1000), 0);
        }
        for (int i = 0; i < 25; i++) {
            due("send", x.send(0, i % 12, 1, 40, true), 0);
        }
        for (int p = 1; p < 16; p++) {
            int id = p % 12;
            int got = p < 5 ? x.take(p, id, 1, 2, 0) : p < 10 ? x.send(p, id, 1, 1, false) : stepped(x, p, id, 0, -1, 0);
            due("waits", got, PENDING);
        }
        int[] want = {16, 16, 15, 12, 12, 1000, 25};
        for (int what = 0; what < want.length; what++) {
            due("count(" + what + ")", x.count(what), want[what]);
        }
        for (int p = 1; p < 16; p++) {
            due("exit", x.exit(p), 1);
        }
        due("all came", x.count(0), 16);
        due("one lives", x.count(1), 1);
        due("none waits", x.count(2), 0);
    }

    // "---- what is told (no RESULT comes of it)."
    private static void noResultComesOfIt() {
        QueuesAndGates x = withProcesses(2);
        due("refused", x.queue(1, 9, 0), ABSENT);
        due("set", x.set(0, 1, 1, 1023), 0);
        due("queue", x.queue(0, 1, 1023), 0);
        due("refused", x.queue(0, -1, 0), OUTSIDE);
        x.queueOf(0, 8);
        x.queueOf(1, 12);
        x.message(1, 1, 1);
        x.setOf(0, 7);
        x.setOf(1, 9);
        x.counter(0, 0, 0);
        x.counter(1, 1, 4);
        x.undo(1, 0, 0);
        x.count(0);
        x.count(7);
        due("as before", x.result(1), ABSENT);
        due("as before", x.result(0), OUTSIDE);
    }
}

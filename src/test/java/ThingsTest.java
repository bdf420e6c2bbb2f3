/** Promises 9 to 13: queues and sets by keys, their rights, ends, owners and rooms. */
public final class ThingsTest extends Check {
    public static void main(String[] args) {
        queueByKeys();
        queueRights();
        queueSlots();
        setByKeys();
        setSlots();
        removeQueue();
        removeLetsSendersIn();
        removeSet();
        own();
        room();
        notAsOneWaits();
        fromTheStart();
        end();
    }

    // promise 9
    private static void queueByKeys() {
        QueuesAndGates x = withProcesses(3);
        due("unknown", x.queue(3, -1, 0), UNKNOWN);
        due("key", x.queue(1, -1, 512), OUTSIDE);
        due("key", x.queue(1, 1000001, 512), OUTSIDE);
        due("way", x.queue(1, 1, -1), OUTSIDE);
        due("way", x.queue(1, 1, 2048), OUTSIDE);
        due("absent", x.queue(1, 1000000, 511), ABSENT);
        due("1024 alone makes none", x.queue(1, 1000000, 1024), ABSENT);
        due("made", x.queue(1, 1000000, 512 + 448), 0);
        due("key", x.queueOf(0, 1), 1000000);
        due("mode", x.queueOf(0, 6), 448);
        due("there", x.queue(1, 1000000, 0), 0);
        due("there", x.queue(1, 1000000, 512), 0);
        due("1024 alone is nothing", x.queue(1, 1000000, 1024), 0);
        due("exists", x.queue(1, 1000000, 512 + 1024), EXISTS);
        due("exists, ahead of ACCESS", x.queue(2, 1000000, 2047), EXISTS);
        due("a new one", x.queue(1, 2, 512 + 1024 + 7), 1);
        due("mode", x.queueOf(1, 6), 7);
        due("key 0", x.queue(1, 0, 5), 2);
        due("key 0 again", x.queue(1, 0, 512 + 1024 + 6), 3);
        due("mode", x.queueOf(2, 6), 5);
        due("room", x.queueOf(2, 8), 256);
        due("sets have their own keys", x.set(1, 1000000, 1, 0), ABSENT);
        due("result", x.result(1), ABSENT);
        due("count(3)", x.count(3), 4);
    }

    private static void queueRights() {
        QueuesAndGates x = new QueuesAndGates();
        x.process(0, 0);
        x.process(5, 5);
        x.process(6, 5);
        x.process(7, 7);
        due("made", x.queue(1, 1, 512 + 0741), 0);
        due("user 0", x.queue(0, 1, 7), 0);
        due("owner", x.queue(1, 1, 7), 0);
        due("group reads", x.queue(2, 1, 4), 0);
        due("group writes not", x.queue(2, 1, 2), ACCESS);
        due("group runs not", x.queue(2, 1, 1), ACCESS);
        due("others", x.queue(3, 1, 1), 0);
        due("others", x.queue(3, 1, 4), ACCESS);
        due("nothing wanted", x.queue(3, 1, 0), 0);
        due("bits 6 .. 8 are wanted", x.queue(2, 1, 0400), 0);
        due("bits 6 .. 8 are wanted", x.queue(2, 1, 0200), ACCESS);
        due("bits 3 .. 5 are wanted", x.queue(2, 1, 0020), ACCESS);
        due("all together", x.queue(2, 1, 0441), ACCESS);
        due("all together", x.queue(2, 1, 0444), 0);
        due("mode 0", x.queue(1, 2, 512), 1);
        due("the owner's own bits", x.queue(1, 2, 0100), ACCESS);
        due("user 0", x.queue(0, 2, 0777), 1);
        due("made by 0, with others' bits", x.queue(0, 3, 512 + 0007), 2);
        due("others", x.queue(1, 3, 7), 2);
        due("the user's bits go ahead of the others'", x.own(0, 0, 2, 5, 0, 0077), 0);
        due("owner", x.queue(1, 3, 4), ACCESS);
        due("group of the owner", x.own(0, 0, 2, 9, 5, 0740), 0);
        due("group of the owner", x.queue(2, 3, 4), 2);
        due("group of the owner", x.queue(2, 3, 2), ACCESS);
        due("no group", x.queue(3, 3, 4), ACCESS);
    }

    private static void queueSlots() {
        QueuesAndGates x = withProcesses(2);
        for (int i = 0; i < 12; i++) {
            due("made", x.queue(1, 0, 511), i);
        }
        due("full", x.queue(1, 0, 511), FULL);
        due("full", x.queue(1, 5, 1023), FULL);
        due("absent", x.queue(1, 5, 511), ABSENT);
        due("result", x.result(1), ABSENT);
        due("remove", x.remove(1, 0, 7), 0);
        due("remove", x.remove(1, 0, 4), 0);
        due("the least free", x.queue(1, 5, 1023), 16);
        due("the next", x.queue(1, 6, 1023), 19);
        due("remove", x.remove(1, 0, 16), 0);
        due("its key means nothing", x.queue(1, 5, 0), ABSENT);
        due("12 times more", x.queue(1, 5, 1023), 28);
        due("slot 4", x.queueOf(4, 0), 28);
        due("an old id", x.remove(1, 0, 16), INVALID);
        due("an old id", x.remove(1, 0, 4), INVALID);
        due("an id to come", x.remove(1, 0, 40), INVALID);
    }

    // promise 10
    private static void setByKeys() {
        QueuesAndGates x = withProcesses(3);
        due("unknown", x.set(3, 1, 1, 512), UNKNOWN);
        due("key", x.set(1, -1, 1, 512), OUTSIDE);
        due("key", x.set(1, 1000001, 1, 512), OUTSIDE);
        due("n", x.set(1, 1, -1, 512), OUTSIDE);
        due("n", x.set(1, 1, 9, 512), OUTSIDE);
        due("way", x.set(1, 1, 1, -1), OUTSIDE);
        due("way", x.set(1, 1, 1, 2048), OUTSIDE);
        due("absent", x.set(1, 1, 1, 511), ABSENT);
        due("absent, ahead of INVALID", x.set(1, 1, 0, 511), ABSENT);
        due("0 counters", x.set(1, 1, 0, 512), INVALID);
        due("0 counters by key 0", x.set(1, 0, 0, 0), INVALID);
        due("count(4)", x.count(4), 0);
        due("made", x.set(1, 1, 3, 512 + 0640), 0);
        due("there", x.set(1, 1, 3, 0), 0);
        due("0 is none wanted", x.set(1, 1, 0, 0), 0);
        due("too many", x.set(1, 1, 4, 512), INVALID);
        due("EXISTS ahead of INVALID", x.set(1, 1, 4, 512 + 1024), EXISTS);
        due("INVALID ahead of ACCESS", x.set(2, 1, 4, 7), INVALID);
        due("ACCESS", x.set(2, 1, 3, 4), ACCESS);
        due("owner", x.set(1, 1, 3, 6), 0);
        due("owner", x.set(1, 1, 3, 1), ACCESS);
        due("result", x.result(1), ACCESS);
        due("key 0", x.set(1, 0, 8, 0), 1);
        due("counters", x.setOf(1, 7), 8);
        due("counters", x.setOf(0, 7), 3);
    }

    private static void setSlots() {
        QueuesAndGates x = withProcesses(2);
        for (int i = 0; i < 12; i++) {
            due("made", x.set(1, 0, 1 + i % 8, 511), i);
        }
        due("full", x.set(1, 0, 1, 511), FULL);
        due("INVALID ahead of FULL", x.set(1, 0, 0, 511), INVALID);
        due("queues have their own slots", x.queue(1, 0, 511), 0);
        due("steps", stepped(x, 1, 2, 1, 5, 2), 0);
        due("remove", x.remove(1, 1, 2), 0);
        due("made in slot 2", x.set(1, 9, 8, 1023), 14);
        due("values of a new one", x.counter(2, 1, 0), 0);
        due("last of a new one", x.counter(2, 1, 1), NONE);
        due("undo of a new one", x.undo(1, 2, 1), 0);
        due("exit", x.exit(1), 1);
        due("nothing to undo", x.counter(2, 1, 1), NONE);
    }

    // promise 11
    private static void removeQueue() {
        QueuesAndGates x = withProcesses(6);
        due("queue", x.queue(1, 4, 1023), 0);
        due("queue", x.queue(1, 5, 1023), 1);
        due("unknown", x.remove(6, 0, 0), UNKNOWN);
        due("of", x.remove(1, -1, 0), OUTSIDE);
        due("of", x.remove(1, 2, 0), OUTSIDE);
        due("no id", x.remove(1, 0, 2), INVALID);
        due("no id", x.remove(1, 0, -1), INVALID);
        due("no id", x.remove(1, 0, -12), INVALID);
        due("no id", x.remove(1, 0, Integer.MAX_VALUE), INVALID);
        due("no id", x.remove(1, 0, Integer.MIN_VALUE), INVALID);
        due("no set", x.remove(1, 1, 0), INVALID);
        due("does not rule", x.remove(2, 0, 0), ACCESS);
        due("own", x.own(1, 0, 0, 2, 2, 511), 0);
        due("the maker rules still", x.own(1, 0, 0, 2, 2, 0200), 0);
        due("take waits", x.take(3, 1, 0, 0, 0), PENDING);
        due("room", x.room(2, 0, 10), 0);
        due("send", x.send(2, 0, 1, 10, false), 0);
        due("send waits", x.send(0, 0, 1, 5, false), PENDING);
        due("take waits", x.take(4, 1, 5, 2, 0), PENDING);
        due("the owner", x.remove(2, 0, 0), 0);
        due("result of the remover", x.result(2), 0);
        due("sender's result", x.result(0), GONE);
        due("others wait still", x.result(3), PENDING);
        due("others wait still", x.result(4), PENDING);
        due("count(2)", x.count(2), 2);
        due("bytes are gone", x.count(5), 0);
        due("messages are gone", x.count(6), 0);
        due("slot", x.queueOf(0, 0), NONE);
        due("its id", x.send(1, 0, 1, 1, true), INVALID);
        due("user 0 rules", x.remove(0, 0, 1), 0);
        due("taker's result", x.result(3), GONE);
        due("taker's result", x.result(4), GONE);
        due("made anew", x.queue(1, 4, 1023), 12);
        due("room anew", x.queueOf(0, 8), 256);
        due("bytes anew", x.queueOf(0, 7), 0);
        due("owner anew", x.queueOf(0, 2), 1);
    }

    private static void removeLetsSendersIn() {
        QueuesAndGates x = withProcesses(4);
        due("queue", x.queue(0, 0, 511), 0);
        due("queue", x.queue(0, 0, 511), 1);
        due("room", x.room(0, 0, 1000), 0);
        for (int i = 0; i < 15; i++) {
            due("send", x.send(0, 0, 1, 64, true), 0);
        }
        due("all bytes", x.count(5), 960);
        due("beyond 1000 in all", x.send(1, 1, 4, 41, true), AGAIN);
        due("it waits", x.send(1, 1, 4, 41, false), PENDING);
        due("up to 1000 in all", x.send(2, 1, 5, 40, true), 0);
        due("remove", x.remove(0, 0, 0), 0);
        due("the sender goes on", x.result(1), 0);
        due("bytes", x.queueOf(1, 7), 81);
        due("behind the other", x.message(1, 1, 0), 4);
    }

    private static void removeSet() {
        QueuesAndGates x = withProcesses(4);
        due("queue", x.queue(1, 4, 1023), 0);
        due("set", x.set(1, 4, 2, 1023), 0);
        due("steps", stepped(x, 2, 0, 1, 3, 2), 0);
        due("steps", stepped(x, 3, 0, 0, -1, 0), PENDING);
        due("not the set's ruler", x.remove(2, 1, 0), ACCESS);
        due("undo", x.undo(2, 0, 1), -3);
        due("remove", x.remove(1, 1, 0), 0);
        due("gone", x.result(3), GONE);
        due("undo", x.undo(2, 0, 1), 0);
        due("the queue stays", x.queueOf(0, 0), 0);
        due("free again", x.step(3, 0, 1, 0), 1);
        due("no id", x.steps(3, 0), INVALID);
        due("key", x.set(1, 4, 0, 0), ABSENT);
        due("slot", x.setOf(0, 0), NONE);
    }

    // promise 12
    private static void own() {
        QueuesAndGates x = withProcesses(4);
        due("queue", x.queue(1, 4, 512 + 0600), 0);
        due("set", x.set(2, 4, 1, 512 + 0600), 0);
        due("unknown", x.own(4, 0, 0, 1, 1, 0), UNKNOWN);
        due("of", x.own(1, -1, 0, 1, 1, 0), OUTSIDE);
        due("of", x.own(1, 2, 0, 1, 1, 0), OUTSIDE);
        due("user", x.own(1, 0, 0, -1, 1, 0), OUTSIDE);
        due("user", x.own(1, 0, 0, 100, 1, 0), OUTSIDE);
        due("group", x.own(1, 0, 0, 1, -1, 0), OUTSIDE);
        due("group", x.own(1, 0, 0, 1, 100, 0), OUTSIDE);
        due("mode", x.own(1, 0, 0, 1, 1, -1), OUTSIDE);
        due("mode", x.own(1, 0, 0, 1, 1, 512), OUTSIDE);
        due("OUTSIDE ahead of INVALID", x.own(1, 0, 5, 1, 1, 512), OUTSIDE);
        due("no id", x.own(2, 0, 1, 1, 1, 0), INVALID);
        due("does not rule", x.own(2, 0, 0, 2, 2, 511), ACCESS);
        due("does not rule", x.own(1, 1, 0, 2, 2, 511), ACCESS);
        due("result", x.result(1), ACCESS);
        due("own", x.own(1, 0, 0, 99, 98, 511), 0);
        due("owner's user", x.queueOf(0, 2), 99);
        due("owner's group", x.queueOf(0, 3), 98);
        due("maker's user", x.queueOf(0, 4), 1);
        due("maker's group", x.queueOf(0, 5), 5);
        due("mode", x.queueOf(0, 6), 511);
        due("key", x.queueOf(0, 1), 4);
        due("the set stays", x.setOf(0, 2), 2);
        due("own", x.own(2, 1, 0, 3, 4, 0070), 0);
        due("owner's user", x.setOf(0, 2), 3);
        due("owner's group", x.setOf(0, 3), 4);
        due("maker's user", x.setOf(0, 4), 2);
        due("maker's group", x.setOf(0, 5), 10);
        due("mode", x.setOf(0, 6), 0070);
        due("the new owner rules", x.own(3, 1, 0, 3, 4, 0), 0);
        due("user 0 rules", x.own(0, 1, 0, 0, 0, 0), 0);
        due("an owner no more", x.own(3, 1, 0, 3, 4, 0), ACCESS);
    }

    // promise 13
    private static void room() {
        QueuesAndGates x = withProcesses(5);
        due("queue", x.queue(1, 4, 1023), 0);
        due("queue", x.queue(1, 5, 1023), 1);
        due("unknown", x.room(5, 0, 1), UNKNOWN);
        due("bytes", x.room(1, 0, -1), OUTSIDE);
        due("bytes", x.room(1, 0, 1001), OUTSIDE);
        due("no id", x.room(1, 2, 1), INVALID);
        due("does not rule", x.room(2, 0, 1), ACCESS);
        due("as now", x.room(1, 0, 256), 0);
        due("more than now", x.room(1, 0, 257), ACCESS);
        due("result", x.result(1), ACCESS);
        due("by user 0", x.room(0, 0, 1000), 0);
        due("less", x.room(1, 0, 999), 0);
        due("more again", x.room(1, 0, 1000), ACCESS);
        due("own", x.own(1, 0, 0, 2, 2, 511), 0);
        due("by the owner", x.room(2, 0, 20), 0);
        due("room", x.queueOf(0, 8), 20);
        due("send", x.send(1, 0, 1, 15, true), 0);
        due("waits", x.send(1, 0, 2, 20, false), PENDING);
        due("waits", x.send(2, 0, 3, 6, false), PENDING);
        due("below its bytes", x.room(0, 0, 0), 0);
        due("the message stays", x.queueOf(0, 7), 15);
        due("a byte is above", x.send(3, 0, 3, 1, true), INVALID);
        due("but none does not fit", x.send(3, 0, 3, 0, true), AGAIN);
        due("to 21", x.room(0, 0, 21), 0);
        due("the first waits still", x.result(1), PENDING);
        due("the second goes on", x.result(2), 0);
        due("to 41", x.room(0, 0, 41), 0);
        due("the first", x.result(1), 0);
        due("order", x.message(0, 1, 0), 3);
        due("order", x.message(0, 2, 0), 2);
        due("others' rooms", x.queueOf(1, 8), 256);
    }

    // promises 9 to 13: NOT of one that waits, or that has ended
    private static void notAsOneWaits() {
        QueuesAndGates x = withProcesses(3);
        due("queue", x.queue(1, 1, 1023), 0);
        due("set", x.set(1, 1, 1, 1023), 0);
        due("take", x.take(1, 0, 1, 0, 0), PENDING);
        due("exit", x.exit(2), 1);
        for (int p = 1; p <= 2; p++) {
            due("queue", x.queue(p, -1, 0), NOT);
            due("set", x.set(p, -1, 0, 0), NOT);
            due("remove", x.remove(p, 0, 0), NOT);
            due("own", x.own(p, 0, 0, 100, 0, 0), NOT);
            due("room", x.room(p, 0, 1), NOT);
            due("send", x.send(p, 0, 0, 1, true), NOT);
            due("take", x.take(p, 0, 65, 0, 1), NOT);
            due("step", x.step(p, 9, 0, 0), NOT);
            due("steps", x.steps(p, 5), NOT);
            due("value", x.value(p, 0, 0, -1), NOT);
        }
        due("RESULT stays", x.result(1), PENDING);
        due("RESULT stays", x.result(2), 0);
        due("none removed", x.count(3) + x.count(4), 2);
        due("room stays", x.queueOf(0, 8), 256);
    }

    /** A thing in a slot that was used before has nothing of the one before. */
    private static void fromTheStart() {
        QueuesAndGates x = withProcesses(3);
        due("queue", x.queue(0, 1, 1023), 0);
        due("set", x.set(0, 1, 8, 1023), 0);
        due("room", x.room(0, 0, 500), 0);
        sent(x, 0, 0, 3, 20, 9, 0);
        due("take waits", x.take(1, 0, 9, 4, 0), PENDING);
        due("steps", stepped(x, 0, 0, 0, 3, 2), 0);
        due("steps wait", stepped(x, 2, 0, 7, -1, 0), PENDING);
        due("own", x.own(0, 0, 0, 7, 7, 0), 0);
        due("own", x.own(0, 1, 0, 7, 7, 0), 0);
        due("remove", x.remove(0, 0, 0), 0);
        due("remove", x.remove(0, 1, 0), 0);
        due("no undo", x.undo(0, 0, 0), 0);
        due("queue", x.queue(1, 0, 0600), 12);
        due("set", x.set(2, 0, 2, 0600), 12);
        int[] queue = {12, 0, 1, 5, 1, 5, 0600, 0, 256, 0, 0, 0};
        for (int what = 0; what < queue.length; what++) {
            due("queueOf(0, " + what + ")", x.queueOf(0, what), queue[what]);
        }
        int[] set = {12, 0, 2, 10, 2, 10, 0600, 2, 0};
        for (int what = 0; what < set.length; what++) {
            due("setOf(0, " + what + ")", x.setOf(0, what), set[what]);
        }
        due("no message", x.message(0, 0, 0), -1);
        due("value", x.counter(0, 0, 0), 0);
        due("last", x.counter(0, 0, 1), NONE);
        due("none waits", x.counter(0, 0, 2), 0);
        due("undo", x.undo(0, 0, 0), 0);
        due("fewer counters", x.counter(0, 2, 0), NONE);
        due("take", x.take(1, 12, 9, 0, 1), NOMESSAGE);
    }
}

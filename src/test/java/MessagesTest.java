/** Promises 14 and 15, with part 2 of the terms: sending and taking. */
public final class MessagesTest extends Check {
    public static void main(String[] args) {
        sendRefused();
        sendWaits();
        sendLimits();
        takeRefused();
        takeByTypes();
        takeByExtremeTypes();
        takeBytes();
        takersInTurn();
        takersTooSmall();
        takersAheadOfFit();
        tooBigThoughAgain();
        sendersInTurn();
        senderHandsToTaker();
        manySenders();
        manyTakers();
        end();
    }

    // promise 14
    private static void sendRefused() {
        QueuesAndGates x = withProcesses(3);
        due("queue", x.queue(1, 1, 512 + 0600), 0);
        due("unknown", x.send(3, 0, 1, 1, true), UNKNOWN);
        due("type", x.send(1, 0, 0, 1, true), OUTSIDE);
        due("type", x.send(1, 0, Long.MIN_VALUE, 1, true), OUTSIDE);
        due("n", x.send(1, 0, 1, -1, true), OUTSIDE);
        due("n", x.send(1, 0, 1, 65, true), OUTSIDE);
        due("OUTSIDE ahead of INVALID", x.send(1, 3, 0, 1, true), OUTSIDE);
        due("id", x.send(1, 1, 1, 1, true), INVALID);
        due("id", x.send(1, 12, 1, 1, true), INVALID);
        due("id", x.send(1, -1, 1, 1, true), INVALID);
        due("room", x.room(1, 0, 10), 0);
        due("above room", x.send(1, 0, 1, 11, false), INVALID);
        due("INVALID ahead of ACCESS", x.send(2, 0, 1, 11, false), INVALID);
        due("access", x.send(2, 0, 1, 10, false), ACCESS);
        due("result", x.result(2), ACCESS);
        due("to write is enough", x.own(1, 0, 0, 1, 5, 0002), 0);
        due("others write", x.send(2, 0, 1, 1, false), 0);
        due("the owner does not", x.send(1, 0, 1, 1, false), ACCESS);
        due("to read is not", x.own(1, 0, 0, 1, 5, 0505), 0);
        due("others read", x.send(2, 0, 1, 1, false), ACCESS);
        due("user 0", x.send(0, 0, 1, 1, false), 0);
        due("messages", x.count(6), 2);
    }

    private static void sendWaits() {
        QueuesAndGates x = withProcesses(3);
        due("queue", x.queue(1, 1, 1023), 0);
        due("room", x.room(1, 0, 4), 0);
        sent(x, 1, 0, 7, 3, 33, 0);
        due("bytes", x.queueOf(0, 7), 3);
        due("result", x.result(1), 0);
        due("as room", x.send(1, 0, 8, 1, true), 0);
        due("again", x.send(1, 0, 8, 1, true), AGAIN);
        due("result", x.result(1), AGAIN);
        due("no bytes fit", x.send(1, 0, 9, 0, true), 0);
        due("pending", x.send(1, 0, 10, 2, false), PENDING);
        due("result", x.result(1), PENDING);
        due("waits", x.send(1, 0, 10, 2, true), NOT);
        due("area as it waits", x.area(1, 0, 99), 33);
        due("senders", x.queueOf(0, 10), 1);
        due("takers", x.queueOf(0, 11), 0);
        due("take", x.take(2, 0, 64, 8, 1), 1);
        due("one byte is too few", x.result(1), PENDING);
        due("take", x.take(2, 0, 64, 7, 1), 3);
        due("goes on", x.result(1), 0);
        due("row", x.message(0, 0, 0), 9);
        due("behind all", x.message(0, 1, 0), 10);
        due("the bytes as they were", x.message(0, 1, 2), 33);
        due("the bytes as they were", x.message(0, 1, 3), 33);
        due("no more", x.message(0, 1, 4), -1);
    }

    private static void sendLimits() {
        QueuesAndGates x = withProcesses(3);
        due("queue", x.queue(0, 1, 1023), 0);
        for (int i = 0; i < 40; i++) {
            due("send", x.send(1, 0, i + 1, 0, true), 0);
        }
        due("40 messages", x.queueOf(0, 9), 40);
        due("no more than 40", x.send(1, 0, 1, 0, true), AGAIN);
        due("it waits", x.send(1, 0, 77, 0, false), PENDING);
        due("take", x.take(2, 0, 0, 20, 1), 0);
        due("it went in", x.result(1), 0);
        due("the last", x.message(0, 39, 0), 77);
        due("those behind came up", x.message(0, 19, 0), 21);
        due("those ahead stayed", x.message(0, 18, 0), 19);
        due("queue", x.queue(0, 2, 1023), 1);
        due("room", x.room(0, 1, 1000), 0);
        for (int i = 0; i < 15; i++) {
            due("send", x.send(1, 1, 1, 64, true), 0);
        }
        due("40 to 1000", x.send(1, 1, 1, 41, true), AGAIN);
        due("40 to 1000", x.send(1, 1, 1, 40, true), 0);
        due("count(5)", x.count(5), 1000);
        due("queue", x.queue(0, 3, 1023), 2);
        due("no bytes fit", x.send(1, 2, 1, 0, true), 0);
        due("of all queues", x.send(1, 2, 1, 1, true), AGAIN);
        due("of all queues", x.send(1, 2, 1, 1, false), PENDING);
        due("take elsewhere", x.take(2, 1, 64, 0, 1), 64);
        due("lets it in", x.result(1), 0);
    }

    // promise 15
    private static void takeRefused() {
        QueuesAndGates x = withProcesses(3);
        due("queue", x.queue(1, 1, 512 + 0600), 0);
        due("unknown", x.take(3, 0, 1, 0, 1), UNKNOWN);
        due("n", x.take(1, 0, -1, 0, 1), OUTSIDE);
        due("n", x.take(1, 0, 65, 0, 1), OUTSIDE);
        due("way", x.take(1, 0, 1, 0, -1), OUTSIDE);
        due("way", x.take(1, 0, 1, 0, 8), OUTSIDE);
        due("id", x.take(1, 1, 1, 0, 1), INVALID);
        due("id", x.take(1, -1, 1, 0, 1), INVALID);
        due("access", x.take(2, 0, 1, 0, 1), ACCESS);
        due("result", x.result(2), ACCESS);
        due("no message", x.take(1, 0, 1, 0, 1), NOMESSAGE);
        due("result", x.result(1), NOMESSAGE);
        due("to read is enough", x.own(1, 0, 0, 1, 5, 0004), 0);
        due("others read", x.take(2, 0, 1, 0, 1), NOMESSAGE);
        due("the owner does not", x.take(1, 0, 1, 0, 1), ACCESS);
        due("to write is not", x.own(1, 0, 0, 1, 5, 0003), 0);
        due("others write", x.take(2, 0, 1, 0, 1), ACCESS);
        due("user 0", x.take(0, 0, 1, 0, 0), PENDING);
        due("result", x.result(0), PENDING);
        due("not as it waits", x.take(0, 0, 1, 0, 0), NOT);
    }

    private static void takeByTypes() {
        QueuesAndGates x = withProcesses(2);
        due("queue", x.queue(1, 1, 1023), 0);
        long[] types = {5, 3, 9, 3, 5, 2, 7};
        for (int i = 0; i < types.length; i++) {
            due("send", x.send(1, 0, types[i], i + 1, true), 0);
        }
        due("first of 3", x.take(1, 0, 64, 3, 1), 2);
        due("none of 4", x.take(1, 0, 64, 4, 1), NOMESSAGE);
        due("others than 5", x.take(1, 0, 64, 5, 5), 3);
        due("taken", x.taken(1), 9);
        due("at most 1", x.take(1, 0, 64, -1, 1), NOMESSAGE);
        due("the least up to 6", x.take(1, 0, 64, -6, 1), 6);
        due("taken", x.taken(1), 2);
        due("the least up to 5", x.take(1, 0, 64, -5, 1), 4);
        due("the first of the least", x.take(1, 0, 64, -5, 1), 1);
        due("OTHERS is nothing below 0", x.take(1, 0, 64, -5, 5), 5);
        due("OTHERS is nothing at 0", x.take(1, 0, 64, 0, 5), 7);
        due("none is left", x.count(6), 0);
        due("none is left", x.count(5), 0);
        due("send", x.send(1, 0, 4, 0, true), 0);
        due("others than the only type", x.take(1, 0, 64, 4, 5), NOMESSAGE);
        due("any", x.take(1, 0, 64, 0, 1), 0);
        due("taken", x.taken(1), 4);
    }

    private static void takeByExtremeTypes() {
        QueuesAndGates x = withProcesses(2);
        due("queue", x.queue(1, 1, 1023), 0);
        due("send", x.send(1, 0, Long.MAX_VALUE, 1, true), 0);
        due("below all", x.take(1, 0, 64, -Long.MAX_VALUE + 1, 1), NOMESSAGE);
        due("as the greatest", x.take(1, 0, 64, -Long.MAX_VALUE, 1), 1);
        due("send", x.send(1, 0, Long.MAX_VALUE, 2, true), 0);
        due("send", x.send(1, 0, Long.MAX_VALUE - 1, 3, true), 0);
        due("least long", x.take(1, 0, 64, Long.MIN_VALUE, 1), 3);
        due("least long", x.take(1, 0, 64, Long.MIN_VALUE, 1), 2);
        due("send", x.send(1, 0, 1, 4, true), 0);
        due("1", x.take(1, 0, 64, -1, 1), 4);
    }

    private static void takeBytes() {
        QueuesAndGates x = withProcesses(3);
        due("queue", x.queue(1, 1, 1023), 0);
        for (int i = 0; i < 64; i++) {
            x.area(1, i, i + 100);
        }
        due("send", x.send(1, 0, 3, 64, true), 0);
        due("send", x.send(1, 0, 4, 2, true), 0);
        due("too big", x.take(2, 0, 63, 0, 1), TOOBIG);
        due("too big, though it would wait", x.take(2, 0, 63, 3, 0), TOOBIG);
        due("result", x.result(2), TOOBIG);
        due("stays", x.queueOf(0, 9), 2);
        due("nothing came", x.areaAt(2, 0), 0);
        due("cut", x.take(2, 0, 3, 3, 3), 3);
        due("result", x.result(2), 3);
        due("whole message is gone", x.queueOf(0, 7), 2);
        due("area", x.areaAt(2, 2), 102);
        due("no more", x.areaAt(2, 3), 0);
        due("a smaller one", x.take(2, 0, 64, 0, 2), 2);
        due("area", x.areaAt(2, 1), 101);
        due("what was there stays", x.areaAt(2, 2), 102);
        due("send", x.send(1, 0, 4, 64, true), 0);
        due("exactly", x.take(2, 0, 64, 0, 1), 64);
        due("area", x.areaAt(2, 63), 163);
        due("send", x.send(1, 0, 4, 5, true), 0);
        due("cut to none", x.take(2, 0, 0, 0, 3), 0);
        due("taken", x.taken(2), 4);
        due("gone", x.count(6), 0);
    }

    private static void takersInTurn() {
        QueuesAndGates x = withProcesses(7);
        due("queue", x.queue(0, 1, 1023), 0);
        due("queue", x.queue(0, 2, 1023), 1);
        due("take", x.take(4, 1, 64, 0, 0), PENDING);
        due("take", x.take(5, 0, 64, 6, 0), PENDING);
        due("take", x.take(3, 0, 64, 0, 0), PENDING);
        due("take", x.take(2, 0, 64, 6, 4), PENDING);
        due("takers", x.queueOf(0, 11), 3);
        due("senders", x.queueOf(0, 10), 0);
        due("takers", x.queueOf(1, 11), 1);
        sent(x, 1, 0, 5, 2, 50, 0);
        due("not of type 6", x.result(5), PENDING);
        due("the first that wants it", x.result(3), 2);
        due("its area", x.areaAt(3, 1), 50);
        due("its type", x.taken(3), 5);
        due("one alone has it", x.result(2), PENDING);
        due("of another queue", x.result(4), PENDING);
        due("none in the row", x.count(6), 0);
        sent(x, 1, 0, 6, 1, 60, 0);
        due("type 6", x.result(5), 1);
        sent(x, 1, 0, 6, 1, 60, 0);
        due("others than 6", x.result(2), PENDING);
        due("in the row", x.count(6), 1);
        due("take", x.take(3, 0, 64, -3, 0), PENDING);
        sent(x, 1, 0, 4, 1, 61, 0);
        due("others than 6", x.result(2), 1);
        sent(x, 1, 0, 4, 1, 61, 0);
        due("up to 3", x.result(3), PENDING);
        sent(x, 1, 0, 3, 1, 62, 0);
        due("up to 3", x.result(3), 1);
        due("bytes", x.areaAt(3, 0), 62);
    }

    private static void takersTooSmall() {
        QueuesAndGates x = withProcesses(7);
        due("queue", x.queue(0, 1, 1023), 0);
        due("take", x.take(2, 0, 1, 0, 0), PENDING);
        due("take", x.take(3, 0, 0, 8, 0), PENDING);
        due("take", x.take(4, 0, 2, 0, 2), PENDING);
        due("take", x.take(5, 0, 0, 0, 0), PENDING);
        sent(x, 1, 0, 7, 3, 70, 0);
        due("too small", x.result(2), TOOBIG);
        due("of another type", x.result(3), PENDING);
        due("cut", x.result(4), 2);
        due("cut", x.areaAt(4, 2), 0);
        due("behind the one that had it", x.result(5), PENDING);
        due("takers", x.queueOf(0, 11), 2);
        sent(x, 1, 0, 7, 3, 70, 0);
        due("too small", x.result(5), TOOBIG);
        due("none had it", x.count(6), 1);
        due("none taken", x.taken(5), 0);
        sent(x, 1, 0, 8, 0, 0, 0);
        due("no bytes", x.result(3), 0);
        due("no bytes", x.taken(3), 8);
    }

    private static void takersAheadOfFit() {
        QueuesAndGates x = withProcesses(4);
        due("queue", x.queue(0, 1, 1023), 0);
        due("room", x.room(0, 0, 10), 0);
        sent(x, 1, 0, 7, 10, 70, 0);
        due("take", x.take(2, 0, 64, 8, 0), PENDING);
        due("it need not fit", x.send(1, 0, 8, 10, true), 0);
        due("the taker", x.result(2), 10);
        due("bytes", x.queueOf(0, 7), 10);
        due("again", x.send(1, 0, 8, 10, true), AGAIN);
    }

    private static void tooBigThoughAgain() {
        QueuesAndGates x = withProcesses(4);
        due("queue", x.queue(0, 1, 1023), 0);
        due("room", x.room(0, 0, 10), 0);
        sent(x, 1, 0, 7, 10, 70, 0);
        due("take", x.take(2, 0, 1, 8, 0), PENDING);
        due("does not fit", x.send(1, 0, 8, 9, true), AGAIN);
        due("but it was sent to the taker", x.result(2), TOOBIG);
        due("take", x.take(2, 0, 1, 8, 0), PENDING);
        due("does not fit", x.send(1, 0, 8, 9, false), PENDING);
        due("but it was sent to the taker", x.result(2), TOOBIG);
    }

    private static void sendersInTurn() {
        QueuesAndGates x = withProcesses(8);
        due("queue", x.queue(0, 1, 1023), 0);
        due("queue", x.queue(0, 2, 1023), 1);
        due("room", x.room(0, 0, 10), 0);
        due("room", x.room(0, 1, 10), 0);
        sent(x, 1, 0, 1, 6, 1, 0);
        sent(x, 1, 0, 2, 4, 1, 0);
        sent(x, 1, 1, 1, 10, 1, 0);
        due("send", x.send(5, 0, 15, 7, false), PENDING);
        due("send", x.send(4, 1, 14, 1, false), PENDING);
        due("send", x.send(3, 0, 13, 3, false), PENDING);
        due("send", x.send(2, 0, 12, 2, false), PENDING);
        due("send", x.send(6, 0, 16, 1, false), PENDING);
        due("senders", x.queueOf(0, 10), 4);
        due("take 4 bytes", x.take(1, 0, 64, 2, 1), 4);
        due("7 are too many", x.result(5), PENDING);
        due("of the other queue", x.result(4), PENDING);
        due("3 bytes", x.result(3), 0);
        due("2 are too many", x.result(2), PENDING);
        due("1 byte", x.result(6), 0);
        due("row", x.message(0, 1, 0), 13);
        due("row", x.message(0, 2, 0), 16);
        due("full", x.queueOf(0, 7), 10);
        due("take 6 bytes", x.take(1, 0, 64, 1, 1), 6);
        due("7 are too many", x.result(5), PENDING);
        due("2 bytes", x.result(2), 0);
        due("take", x.take(1, 1, 64, 1, 1), 10);
        due("the other queue", x.result(4), 0);
        due("signal", x.signal(5), 1);
        due("take", x.take(1, 0, 64, 13, 1), 3);
        due("none waits", x.count(2), 0);
        due("bytes", x.queueOf(0, 7), 3);
    }

    private static void senderHandsToTaker() {
        QueuesAndGates x = withProcesses(6);
        due("queue", x.queue(0, 1, 1023), 0);
        due("room", x.room(0, 0, 10), 0);
        sent(x, 1, 0, 1, 10, 1, 0);
        due("send", x.send(2, 0, 8, 5, false), PENDING);
        due("send", x.send(3, 0, 9, 8, false), PENDING);
        due("take sees the row alone", x.take(4, 0, 5, 8, 0), PENDING);
        due("take", x.take(5, 0, 2, 9, 0), PENDING);
        due("take", x.take(1, 0, 64, 1, 1), 10);
        due("to the taker", x.result(4), 5);
        due("sent", x.result(2), 0);
        due("it took no room", x.result(3), 0);
        due("too big for the taker", x.result(5), TOOBIG);
        due("bytes", x.queueOf(0, 7), 8);
        due("messages", x.queueOf(0, 9), 1);
        due("type", x.message(0, 0, 0), 9);
    }

    private static void manySenders() {
        QueuesAndGates x = withProcesses(16);
        due("queue", x.queue(0, 1, 1023), 0);
        due("room", x.room(0, 0, 10), 0);
        due("send", x.send(0, 0, 99, 10, true), 0);
        for (int p = 1; p < 16; p++) {
            due("waits", x.send(p, 0, p, 1, false), PENDING);
        }
        due("take", x.take(0, 0, 64, 99, 1), 10);
        due("ten went in", x.queueOf(0, 9), 10);
        due("five wait", x.queueOf(0, 10), 5);
        due("the tenth", x.message(0, 9, 0), 10);
        due("room", x.room(0, 0, 1000), 0);
        due("none waits", x.count(2), 0);
        due("the last", x.message(0, 14, 0), 15);
    }

    private static void manyTakers() {
        QueuesAndGates x = withProcesses(16);
        due("queue", x.queue(0, 1, 1023), 0);
        for (int p = 1; p < 16; p++) {
            due("waits", x.take(p, 0, p == 15 ? 64 : 0, 0, 0), PENDING);
        }
        due("send", x.send(0, 0, 9, 1, true), 0);
        for (int p = 1; p < 15; p++) {
            due("too small", x.result(p), TOOBIG);
        }
        due("the last has it", x.result(15), 1);
        due("none in the row", x.count(6), 0);
    }
}

/** The edges that Terms 2 and promises 14 and 15 name: a method for each sentence, on an object of its own. */
public final class EdgesOfMessagesTest extends Check {
    private static final long LEAST = Long.MIN_VALUE, GREATEST = Long.MAX_VALUE;

    public static void main(String[] args) {
        takersInTheirOrder();
        takersInTurnAgain();
        takerForLessBytes();
        takerForAsManyBytes();
        takerForLessButCut();
        takerForLessThoughItDoesNotFit();
        takerThatDoesNotWant();
        firstTakerHasIt();
        behindAllMessages();
        fitsTheRoom();
        fitsTheRoomOfZero();
        fitsWithLessThan40();
        fitsWithAllQueues();
        type0WantsAny();
        typeAbove0();
        typeByOthers();
        othersElsewhere();
        typeBelow0();
        typeAtTheEnds();
        waitingTypes();
        waitingTypesAtTheEnds();
        firstWanted();
        firstOfTheLeast();
        cutToWhatIsAskedFor();
        tooBigStays();
        tooBigIsTheWantedOne();
        areaFrom0On();
        sendersInTheirOrder();
        sendersToAnyQueue();
        sendersAsLongAsOneDid();
        senderSendsToTakers();
        noMessageLeft();
        sendType();
        sendBytes();
        sendInvalid();
        sendAboveRoom();
        sendAccess();
        sendAgain();
        sendAsTheBytesWere();
        takeBytes();
        takeWay();
        takeInvalid();
        takeAccess();
        takeTooBig();
        takeNoMessage();
        takeWaits();
        end();
    }

    /** Processes, and one queue that all may use, of some room. */
    private static QueuesAndGates withRoom(int room) {
        QueuesAndGates x = withProcesses(16);
        due("queue", x.queue(0, 1, 1023), 0);
        due("room", x.room(0, 0, room), 0);
        return x;
    }

    // Terms 2: "the PROCESSES that WAIT to TAKE from it, in the order in which they came to WAIT"
    private static void takersInTheirOrder() {
        QueuesAndGates x = withRoom(100);
        due("queue", x.queue(0, 2, 1023), 1);
        int[] order = {9, 3, 12, 1, 7};
        due("of another queue", x.take(14, 1, 9, 0, 0), PENDING);
        for (int p : order) {
            due("waits", x.take(p, 0, 9, 0, 0), PENDING);
        }
        for (int i = 0; i < order.length; i++) {
            due("send", x.send(0, 0, i + 1, i, true), 0);
            due("its bytes", x.result(order[i]), i);
            due("its type", x.taken(order[i]), i + 1);
            due("those behind wait", x.queueOf(0, 11), order.length - 1 - i);
        }
        due("of another queue", x.result(14), PENDING);
        due("none is in the row", x.count(6), 0);
    }

    // Terms 2: one that waits again comes behind
    private static void takersInTurnAgain() {
        QueuesAndGates x = withRoom(100);
        due("waits", x.take(1, 0, 9, 0, 0), PENDING);
        due("waits", x.take(2, 0, 9, 0, 0), PENDING);
        due("send", x.send(0, 0, 1, 1, true), 0);
        due("waits again", x.take(1, 0, 9, 0, 0), PENDING);
        due("send", x.send(0, 0, 1, 2, true), 0);
        due("behind", x.result(1), PENDING);
        due("ahead", x.result(2), 2);
    }

    // Terms 2: "one that WANTS it, but for less bytes, and not CUT, has RESULT TOOBIG, and goes on"
    private static void takerForLessBytes() {
        QueuesAndGates x = withRoom(100);
        due("waits", x.take(1, 0, 4, 0, 0), PENDING);
        due("waits", x.take(2, 0, 0, 7, 0), PENDING);
        due("send", x.send(0, 0, 7, 5, true), 0);
        due("too big", x.result(1), TOOBIG);
        due("too big", x.result(2), TOOBIG);
        due("no type", x.taken(1), 0);
        due("none waits", x.count(2), 0);
        due("behind all", x.queueOf(0, 9), 1);
        due("it goes on", x.take(1, 0, 5, 0, 1), 5);
    }

    private static void takerForAsManyBytes() {
        QueuesAndGates x = withRoom(100);
        due("waits", x.take(1, 0, 5, 0, 0), PENDING);
        due("send", x.send(0, 0, 7, 5, true), 0);
        due("as many", x.result(1), 5);
        due("waits", x.take(2, 0, 64, 0, 0), PENDING);
        due("send", x.send(0, 0, 7, 64, true), 0);
        due("64", x.result(2), 64);
        due("waits", x.take(3, 0, 0, 0, 0), PENDING);
        due("send", x.send(0, 0, 8, 0, true), 0);
        due("none", x.result(3), 0);
        due("it has the type", x.taken(3), 8);
        due("none waits", x.count(2), 0);
    }

    // Terms 2: "With CUT it is cut to so many bytes as are asked for", as one waits, too
    private static void takerForLessButCut() {
        QueuesAndGates x = withRoom(100);
        for (int i = 0; i < 5; i++) {
            x.area(0, i, 11 + i);
        }
        due("waits", x.take(1, 0, 3, 0, 2), PENDING);
        due("send", x.send(0, 0, 7, 5, true), 0);
        due("cut", x.result(1), 3);
        due("the last byte", x.areaAt(1, 2), 13);
        due("no more", x.areaAt(1, 3), 0);
        due("waits", x.take(2, 0, 0, 0, 2), PENDING);
        due("send", x.send(0, 0, 9, 5, true), 0);
        due("cut to none", x.result(2), 0);
        due("no byte", x.areaAt(2, 0), 0);
        due("its type", x.taken(2), 9);
        due("none in the row", x.count(6), 0);
    }

    // Promise 14: "where no TAKER has it and it does not FIT": those for less bytes have TOOBIG ahead of it
    private static void takerForLessThoughItDoesNotFit() {
        QueuesAndGates x = withRoom(10);
        due("send", x.send(0, 0, 1, 10, true), 0);
        for (int p = 1; p <= 2; p++) {
            due("waits", x.take(p, 0, 1, 2, 0), PENDING);
            due("does not fit", x.send(3, 0, 2, 2, p == 1), p == 1 ? AGAIN : PENDING);
            due("too big", x.result(p), TOOBIG);
            due("no type", x.taken(p), 0);
        }
        due("the sender waits", x.result(3), PENDING);
        due("one message", x.queueOf(0, 9), 1);
    }

    // Terms 2: one that does not WANT it has no TOOBIG, and waits on
    private static void takerThatDoesNotWant() {
        QueuesAndGates x = withRoom(100);
        due("waits", x.take(1, 0, 0, 6, 0), PENDING);
        due("waits", x.take(2, 0, 0, 5, 4), PENDING);
        due("waits", x.take(3, 0, 0, -4, 0), PENDING);
        due("waits", x.take(4, 0, 9, 5, 0), PENDING);
        due("send", x.send(0, 0, 5, 5, true), 0);
        for (int p = 1; p <= 3; p++) {
            due("waits on", x.result(p), PENDING);
        }
        due("the one that wants it", x.result(4), 5);
    }

    // Terms 2: "the first one that WANTS it otherwise has it, and goes on"
    private static void firstTakerHasIt() {
        QueuesAndGates x = withRoom(100);
        due("too few", x.take(1, 0, 4, 0, 0), PENDING);
        due("the first", x.take(2, 0, 5, 0, 0), PENDING);
        due("too few, behind it", x.take(3, 0, 4, 0, 0), PENDING);
        due("another", x.take(4, 0, 5, 0, 0), PENDING);
        due("send", x.send(0, 0, 7, 5, true), 0);
        due("ahead of it", x.result(1), TOOBIG);
        due("the first", x.result(2), 5);
        due("behind it", x.result(3), PENDING);
        due("behind it", x.result(4), PENDING);
        due("not in the row", x.count(6), 0);
        due("nor its bytes", x.count(5), 0);
    }

    // Terms 2: "if none has it, and it FITS, it comes behind all MESSAGES"
    private static void behindAllMessages() {
        QueuesAndGates x = withRoom(100);
        for (int type = 5; type >= 1; type--) {
            due("send", x.send(0, 0, type, type, true), 0);
        }
        for (int i = 0; i < 5; i++) {
            due("in its turn", x.message(0, i, 0), 5 - i);
            due("its bytes", x.message(0, i, 1), 5 - i);
        }
        due("take", x.take(1, 0, 9, 3, 1), 3);
        due("send", x.send(0, 0, 9, 0, true), 0);
        due("behind all", x.message(0, 4, 0), 9);
        due("none behind", x.message(0, 5, 0), -1);
    }

    // Terms 2: "A MESSAGE of n bytes FITS, if the QUEUE's BYTES and n are at most its ROOM"
    private static void fitsTheRoom() {
        QueuesAndGates x = withRoom(10);
        due("send", x.send(0, 0, 1, 7, true), 0);
        due("11 of 10", x.send(0, 0, 1, 4, true), AGAIN);
        due("10 of 10", x.send(0, 0, 1, 3, true), 0);
        due("bytes", x.queueOf(0, 7), 10);
        due("11 of 10", x.send(0, 0, 1, 1, true), AGAIN);
        due("10 of 10", x.send(0, 0, 1, 0, true), 0);
        due("messages", x.queueOf(0, 9), 3);
    }

    private static void fitsTheRoomOfZero() {
        QueuesAndGates x = withRoom(0);
        due("none of 0", x.send(0, 0, 1, 0, true), 0);
        due("none of 0", x.send(0, 0, 1, 0, true), 0);
        due("a byte is above it", x.send(0, 0, 1, 1, true), INVALID);
        due("messages", x.queueOf(0, 9), 2);
    }

    // Terms 2: "and its MESSAGES less than 40"
    private static void fitsWithLessThan40() {
        QueuesAndGates x = withRoom(100);
        due("queue", x.queue(0, 2, 1023), 1);
        for (int i = 0; i < 40; i++) {
            due("message " + i, x.send(0, 0, i + 1, 0, true), 0);
        }
        due("a 41st", x.send(0, 0, 41, 0, true), AGAIN);
        due("40", x.queueOf(0, 9), 40);
        due("the last", x.message(0, 39, 0), 40);
        due("of its own", x.send(0, 1, 1, 0, true), 0);
        due("in all", x.count(6), 41);
        due("take", x.take(1, 0, 0, 17, 1), 0);
        due("the 40th again", x.send(0, 0, 41, 0, true), 0);
        due("the last", x.message(0, 39, 0), 41);
        due("a 41st", x.send(0, 0, 42, 0, true), AGAIN);
    }

    // Terms 2: "and if all QUEUES' BYTES and n are at most 1000"
    private static void fitsWithAllQueues() {
        QueuesAndGates x = withRoom(1000);
        for (int id = 1; id <= 3; id++) {
            due("queue", x.queue(0, id + 1, 1023), id);
            for (int i = 0; i < 4; i++) {
                due("256 each", x.send(0, id, 1, 64, true), 0);
            }
        }
        due("768 of 1000", x.count(5), 768);
        for (int i = 0; i < 3; i++) {
            due("192 more", x.send(0, 0, 1, 64, true), 0);
        }
        due("1001 of 1000", x.send(0, 0, 1, 41, true), AGAIN);
        due("1000 of 1000", x.send(0, 0, 1, 40, true), 0);
        due("1001 of 1000", x.send(0, 0, 1, 1, true), AGAIN);
        due("1000 of 1000", x.send(0, 0, 1, 0, true), 0);
        due("take", x.take(1, 3, 64, 0, 1), 64);
        due("its own room", x.send(0, 2, 1, 64, true), AGAIN);
        due("1000 of 1000", x.send(0, 0, 1, 64, true), 0);
        due("in all", x.count(5), 1000);
        due("of the queue", x.queueOf(0, 7), 296);
    }

    // Terms 2: "t 0 WANTS any"
    private static void type0WantsAny() {
        QueuesAndGates x = withRoom(100);
        due("of none", x.take(1, 0, 9, 0, 1), NOMESSAGE);
        due("send", x.send(0, 0, GREATEST, 1, true), 0);
        due("send", x.send(0, 0, 1, 2, true), 0);
        due("the first", x.take(1, 0, 9, 0, 1), 1);
        due("the next", x.take(1, 0, 9, 0, 1), 2);
        due("no more", x.take(1, 0, 9, 0, 1), NOMESSAGE);
    }

    // Terms 2: "above 0 those of TYPE t"
    private static void typeAbove0() {
        QueuesAndGates x = withRoom(100);
        long[] types = {4, 6, 1L << 32, GREATEST};
        for (long type : types) {
            due("send", x.send(0, 0, type, 1, true), 0);
        }
        for (long type : new long[] {1, 3, 5, 7, (1L << 32) + 4, (1L << 32) - 1, GREATEST - 1}) {
            due("none of " + type, x.take(1, 0, 9, type, 1), NOMESSAGE);
        }
        for (int i = 3; i >= 0; i--) {
            due("take", x.take(1, 0, 9, types[i], 1), 1);
            due("its type", x.taken(1), types[i]);
        }
    }

    // Terms 2: "by OTHERS all of other TYPES"
    private static void typeByOthers() {
        QueuesAndGates x = withRoom(100);
        due("of none", x.take(1, 0, 9, 5, 5), NOMESSAGE);
        due("send", x.send(0, 0, 5, 1, true), 0);
        due("only of that type", x.take(1, 0, 9, 5, 5), NOMESSAGE);
        due("of another", x.take(1, 0, 9, GREATEST, 5), 1);
        for (int type = 4; type <= 6; type++) {
            due("send", x.send(0, 0, type, type, true), 0);
        }
        due("less", x.take(1, 0, 9, 5, 5), 4);
        due("above", x.take(1, 0, 9, 5, 5), 6);
        due("only of that type", x.take(1, 0, 9, 5, 5), NOMESSAGE);
    }

    // Promise 15: "4 OTHERS (of a TYPE above 0 alone)"
    private static void othersElsewhere() {
        QueuesAndGates x = withRoom(100);
        due("of 0, none", x.take(1, 0, 9, 0, 5), NOMESSAGE);
        due("send", x.send(0, 0, 5, 1, true), 0);
        due("of 0, any", x.take(1, 0, 9, 0, 5), 1);
        due("send", x.send(0, 0, 5, 1, true), 0);
        due("below 0, none up to 4", x.take(1, 0, 9, -4, 5), NOMESSAGE);
        due("below 0, up to 5", x.take(1, 0, 9, -5, 5), 1);
    }

    // Terms 2: "below 0 those whose TYPE and t together are 0 at most"
    private static void typeBelow0() {
        QueuesAndGates x = withRoom(100);
        due("send", x.send(0, 0, 5, 1, true), 0);
        due("1", x.take(1, 0, 9, -4, 1), NOMESSAGE);
        due("0", x.take(1, 0, 9, -5, 1), 1);
        due("send", x.send(0, 0, 5, 1, true), 0);
        due("-1", x.take(1, 0, 9, -6, 1), 1);
        due("send", x.send(0, 0, 1, 1, true), 0);
        due("the least type", x.take(1, 0, 9, -1, 1), 1);
    }

    // Terms 2: the same at the ends of a long, where a sum or an absolute value might wrap around
    private static void typeAtTheEnds() {
        QueuesAndGates x = withRoom(100);
        due("send", x.send(0, 0, GREATEST, 1, true), 0);
        due("1", x.take(1, 0, 9, -GREATEST + 1, 1), NOMESSAGE);
        due("far above 0", x.take(1, 0, 9, -1, 1), NOMESSAGE);
        due("0", x.take(1, 0, 9, -GREATEST, 1), 1);
        due("send", x.send(0, 0, GREATEST, 2, true), 0);
        due("-1", x.take(1, 0, 9, LEAST, 1), 2);
        due("send", x.send(0, 0, 1, 3, true), 0);
        due("far below 0", x.take(1, 0, 9, LEAST, 1), 3);
        due("send", x.send(0, 0, 1, 4, true), 0);
        due("far below 0", x.take(1, 0, 9, -GREATEST, 1), 4);
    }

    // Terms 2: what is WANTED, by those that WAIT
    private static void waitingTypes() {
        QueuesAndGates x = withRoom(100);
        due("5 alone", x.take(1, 0, 9, 5, 0), PENDING);
        due("up to 3", x.take(2, 0, 9, -3, 0), PENDING);
        due("others than 4", x.take(3, 0, 9, 4, 4), PENDING);
        due("any", x.take(4, 0, 9, 0, 4), PENDING);
        due("send 4", x.send(0, 0, 4, 1, true), 0);
        due("any", x.result(4), 1);
        due("send 4", x.send(0, 0, 4, 1, true), 0);
        due("into the row", x.queueOf(0, 9), 1);
        due("send 3", x.send(0, 0, 3, 2, true), 0);
        due("up to 3", x.result(2), 2);
        due("send 3", x.send(0, 0, 3, 3, true), 0);
        due("others than 4", x.result(3), 3);
        due("send 5", x.send(0, 0, 5, 4, true), 0);
        due("5 alone", x.result(1), 4);
    }

    private static void waitingTypesAtTheEnds() {
        QueuesAndGates x = withRoom(100);
        due("up to the last but one", x.take(1, 0, 9, -GREATEST + 1, 0), PENDING);
        due("all", x.take(2, 0, 9, LEAST, 0), PENDING);
        due("all", x.take(3, 0, 9, -GREATEST, 0), PENDING);
        due("the greatest alone", x.take(4, 0, 9, GREATEST, 0), PENDING);
        due("send", x.send(0, 0, GREATEST, 1, true), 0);
        due("not the first", x.result(1), PENDING);
        due("but the second", x.result(2), 1);
        due("send", x.send(0, 0, GREATEST, 2, true), 0);
        due("the third", x.result(3), 2);
        due("send", x.send(0, 0, GREATEST, 3, true), 0);
        due("the fourth", x.result(4), 3);
        due("send", x.send(0, 0, GREATEST - 1, 4, true), 0);
        due("the first", x.result(1), 4);
    }

    // Terms 2: "The MESSAGE: the first that is WANTED"
    private static void firstWanted() {
        QueuesAndGates x = withRoom(100);
        int[] types = {9, 2, 7, 2, 9, 7};
        for (int i = 0; i < types.length; i++) {
            due("send", x.send(0, 0, types[i], i, true), 0);
        }
        due("of 2", x.take(1, 0, 9, 2, 1), 1);
        due("of others than 9", x.take(1, 0, 9, 9, 5), 2);
        due("of all", x.take(1, 0, 9, 0, 1), 0);
        due("of 7", x.take(1, 0, 9, 7, 1), 5);
        due("of all", x.take(1, 0, 9, 0, 1), 3);
        due("the last", x.take(1, 0, 9, 0, 1), 4);
        due("no more", x.count(6), 0);
    }

    // Terms 2: "of t below 0 the first of the least TYPE"
    private static void firstOfTheLeast() {
        QueuesAndGates x = withRoom(100);
        long[] types = {8, 3, GREATEST, 3, 1L << 40, 2};
        for (int i = 0; i < types.length; i++) {
            due("send", x.send(0, 0, types[i], i, true), 0);
        }
        due("2, the last", x.take(1, 0, 9, -8, 1), 5);
        due("the first 3", x.take(1, 0, 9, -8, 1), 1);
        due("the other 3", x.take(1, 0, 9, -8, 1), 3);
        due("8", x.take(1, 0, 9, LEAST, 1), 0);
        due("the least still", x.take(1, 0, 9, LEAST, 1), 4);
        due("the greatest", x.take(1, 0, 9, LEAST, 1), 2);
        due("no more", x.take(1, 0, 9, LEAST, 1), NOMESSAGE);
    }

    // Terms 2: "With CUT it is cut to so many bytes as are asked for"
    private static void cutToWhatIsAskedFor() {
        QueuesAndGates x = withRoom(200);
        for (int n : new int[] {0, 1, 63, 64}) {
            due("send", x.send(0, 0, 1, 64, true), 0);
            due("cut to " + n, x.take(1, 0, n, 0, 3), n);
            due("none is left", x.count(6) + x.count(5), 0);
        }
        due("send", x.send(0, 0, 1, 5, true), 0);
        due("less than asked for", x.take(1, 0, 64, 0, 3), 5);
        due("send", x.send(0, 0, 1, 0, true), 0);
        due("none at all", x.take(1, 0, 64, 0, 2), 0);
    }

    // Terms 2: "else one that has more is TOOBIG, and stays"
    private static void tooBigStays() {
        QueuesAndGates x = withRoom(100);
        x.area(0, 0, 77);
        due("send", x.send(0, 0, 8, 5, true), 0);
        due("4 of 5", x.take(1, 0, 4, 0, 0), TOOBIG);
        due("0 of 5", x.take(1, 0, 0, 8, 1), TOOBIG);
        due("RESULT", x.result(1), TOOBIG);
        due("it does not wait", x.count(2), 0);
        due("it stays", x.message(0, 0, 1), 5);
        due("bytes", x.queueOf(0, 7), 5);
        due("no byte came", x.areaAt(1, 0), 0);
        due("no type", x.taken(1), 0);
        due("5 of 5", x.take(1, 0, 5, 0, 1), 5);
    }

    // Terms 2: the MESSAGE is told by its TYPE: a later one with less bytes is none instead of one TOOBIG
    private static void tooBigIsTheWantedOne() {
        QueuesAndGates x = withRoom(100);
        due("send", x.send(0, 0, 3, 9, true), 0);
        due("send", x.send(0, 0, 3, 1, true), 0);
        due("send", x.send(0, 0, 4, 0, true), 0);
        due("the first", x.take(1, 0, 5, 0, 1), TOOBIG);
        due("the first of 3", x.take(1, 0, 5, 3, 1), TOOBIG);
        due("of the least", x.take(1, 0, 5, -4, 1), TOOBIG);
        due("of 4", x.take(1, 0, 5, 4, 1), 0);
        due("two are left", x.count(6), 2);
    }

    // Terms 2: "The TAKER's AREA has its bytes from 0 on, its TYPE is told by taken(); RESULT is how many bytes."
    private static void areaFrom0On() {
        QueuesAndGates x = withRoom(100);
        for (int i = 0; i < 64; i++) {
            x.area(0, i, 100 + i);
            x.area(1, i, 5);
        }
        due("send", x.send(0, 0, 8, 64, true), 0);
        due("take", x.take(1, 0, 63, 0, 3), 63);
        due("RESULT", x.result(1), 63);
        due("type", x.taken(1), 8);
        for (int i = 0; i < 63; i++) {
            due("byte " + i, x.areaAt(1, i), 100 + i);
        }
        due("what is beyond stays", x.areaAt(1, 63), 5);
        due("the sender's stay", x.areaAt(0, 63), 163);
    }

    // Terms 2: "those that WAIT to SEND .., in the order in which they came to WAIT: each one whose MESSAGE FITS SENDS it
    // and goes on with RESULT 0"
    private static void sendersInTheirOrder() {
        QueuesAndGates x = withRoom(10);
        due("send", x.send(0, 0, 99, 10, true), 0);
        int[] order = {5, 9, 2, 7};
        int[] bytes = {6, 5, 4, 1};
        for (int i = 0; i < order.length; i++) {
            due("waits", x.send(order[i], 0, order[i], bytes[i], false), PENDING);
        }
        due("none of those", x.take(1, 0, 9, 98, 1), NOMESSAGE);
        due("all wait", x.queueOf(0, 10), 4);
        due("take", x.take(1, 0, 10, 99, 1), 10);
        due("6", x.result(5), 0);
        due("5 more are too many", x.result(9), PENDING);
        due("4 more", x.result(2), 0);
        due("1 more is too many", x.result(7), PENDING);
        due("row", x.message(0, 0, 0), 5);
        due("row", x.message(0, 1, 0), 2);
        due("take", x.take(1, 0, 10, 2, 1), 4);
        due("5 are still too many", x.result(9), PENDING);
        due("1 more", x.result(7), 0);
        due("take", x.take(1, 0, 10, 5, 1), 6);
        due("5", x.result(9), 0);
        due("row", x.message(0, 0, 0), 7);
        due("row", x.message(0, 1, 0), 9);
    }

    // Terms 2: "those that WAIT to SEND to any QUEUE"
    private static void sendersToAnyQueue() {
        QueuesAndGates x = withRoom(1000);
        due("queue", x.queue(0, 2, 1023), 1);
        due("queue", x.queue(0, 3, 1023), 2);
        due("send elsewhere", x.send(0, 2, 1, 40, true), 0);
        for (int i = 0; i < 15; i++) {
            due("send", x.send(0, 0, 1, 64, true), 0);
        }
        due("waits", x.send(4, 1, 4, 60, false), PENDING);
        due("waits", x.send(3, 2, 3, 5, false), PENDING);
        due("waits", x.send(2, 0, 2, 4, false), PENDING);
        due("take", x.take(1, 0, 64, 1, 1), 64);
        due("60 of 64", x.result(4), 0);
        due("5 of 4", x.result(3), PENDING);
        due("4 of 4", x.result(2), 0);
        due("in all", x.count(5), 1000);
        due("take", x.take(1, 1, 64, 0, 1), 60);
        due("5 of 60", x.result(3), 0);
        due("none waits", x.count(2), 0);
    }

    // Terms 2: "from the first one on again, as long as one did"
    private static void sendersAsLongAsOneDid() {
        QueuesAndGates x = withRoom(15);
        due("send", x.send(0, 0, 99, 15, true), 0);
        for (int p = 1; p <= 15; p++) {
            due("waits", x.send(p, 0, p, 1, false), PENDING);
        }
        due("take", x.take(0, 0, 64, 99, 1), 15);
        due("all went in", x.queueOf(0, 9), 15);
        due("none waits", x.count(2), 0);
        for (int p = 1; p <= 15; p++) {
            due("in turn", x.message(0, p - 1, 0), p);
            due("RESULT", x.result(p), 0);
        }
    }

    // Terms 2: "SENDS it": TO SEND, those that WAIT to TAKE come first
    private static void senderSendsToTakers() {
        QueuesAndGates x = withRoom(10);
        due("send", x.send(0, 0, 99, 10, true), 0);
        due("waits", x.send(1, 0, 5, 6, false), PENDING);
        due("waits", x.send(2, 0, 6, 10, false), PENDING);
        due("for less bytes", x.take(3, 0, 5, 5, 0), PENDING);
        due("for as many", x.take(4, 0, 6, 5, 0), PENDING);
        due("take", x.take(0, 0, 10, 99, 1), 10);
        due("too big", x.result(3), TOOBIG);
        due("the taker", x.result(4), 6);
        due("its type", x.taken(4), 5);
        due("the sender", x.result(1), 0);
        due("the room is left to the next", x.result(2), 0);
        due("row", x.message(0, 0, 0), 6);
        due("one alone", x.count(6), 1);
    }

    // Terms 2: "Behind a MESSAGE that left the row": none left, if one stays, or went to a TAKER at once
    private static void noMessageLeft() {
        QueuesAndGates x = withRoom(10);
        due("send", x.send(0, 0, 99, 9, true), 0);
        due("waits", x.send(1, 0, 5, 2, false), PENDING);
        due("stays", x.take(2, 0, 8, 0, 1), TOOBIG);
        due("none is wanted", x.take(2, 0, 8, 5, 1), NOMESSAGE);
        due("waits", x.take(3, 0, 8, 7, 0), PENDING);
        due("to the taker", x.send(2, 0, 7, 8, true), 0);
        due("it has it", x.result(3), 8);
        due("the sender waits on", x.result(1), PENDING);
        due("row", x.count(6), 1);
        due("waits for what one waits to send", x.take(4, 0, 8, 5, 0), PENDING);
        due("the sender waits on", x.result(1), PENDING);
    }

    // Promise 14: "OUTSIDE: TYPE below 1"
    private static void sendType() {
        QueuesAndGates x = withRoom(100);
        for (long type : new long[] {0, -1, LEAST, Integer.MIN_VALUE, -1L << 32}) {
            due("type " + type, x.send(1, 0, type, 1, true), OUTSIDE);
            due("ahead of INVALID", x.send(1, 9, type, 1, true), OUTSIDE);
        }
        due("RESULT", x.result(1), OUTSIDE);
        due("none is there", x.count(6), 0);
        for (long type : new long[] {1, 1L << 31, 1L << 32, GREATEST}) {
            due("type " + type, x.send(1, 0, type, 1, true), 0);
        }
        due("the least", x.message(0, 0, 0), 1);
        due("beyond an int", x.message(0, 1, 0), 1L << 31);
        due("beyond an int", x.message(0, 2, 0), 1L << 32);
        due("the greatest", x.message(0, 3, 0), GREATEST);
    }

    // Promise 14: "The first n bytes (0 .. 64) of the AREA"; "OUTSIDE: .. n"
    private static void sendBytes() {
        QueuesAndGates x = withRoom(100);
        for (int i = 0; i < 64; i++) {
            x.area(1, i, 200 - i);
        }
        for (int n : new int[] {-1, 65, Integer.MIN_VALUE, Integer.MAX_VALUE}) {
            due(n + " bytes", x.send(1, 0, 1, n, true), OUTSIDE);
            due("ahead of INVALID", x.send(1, 9, 1, n, true), OUTSIDE);
        }
        due("none is there", x.count(6), 0);
        due("none", x.send(1, 0, 1, 0, true), 0);
        due("all", x.send(1, 0, 2, 64, true), 0);
        due("none", x.message(0, 0, 1), 0);
        due("no byte", x.message(0, 0, 2), -1);
        due("all", x.message(0, 1, 1), 64);
        for (int i = 0; i < 64; i++) {
            due("byte " + i, x.message(0, 1, 2 + i), 200 - i);
        }
        due("no more", x.message(0, 1, 66), -1);
    }

    // Promise 14: "INVALID: no ID"
    private static void sendInvalid() {
        QueuesAndGates x = withRoom(100);
        due("a set", x.set(0, 1, 1, 1023), 0);
        due("a set", x.set(0, 2, 1, 1023), 1);
        for (int id : new int[] {-1, -12, 1, 11, 12, 24, Integer.MIN_VALUE, Integer.MIN_VALUE + 8, Integer.MAX_VALUE}) {
            due("id " + id, x.send(0, id, 1, 1, true), INVALID);
            due("it would wait", x.send(0, id, 1, 1, false), INVALID);
        }
        due("RESULT", x.result(0), INVALID);
        due("none is there", x.count(6) + x.count(2), 0);
    }

    // Promise 14: "INVALID: .. n is above ROOM"
    private static void sendAboveRoom() {
        QueuesAndGates x = withRoom(10);
        due("as room", x.send(1, 0, 1, 10, true), 0);
        due("above", x.send(1, 0, 1, 11, true), INVALID);
        due("above, though it would wait", x.send(1, 0, 1, 11, false), INVALID);
        due("RESULT", x.result(1), INVALID);
        due("as room, but full", x.send(1, 0, 1, 10, true), AGAIN);
        due("waits", x.take(2, 0, 64, 5, 0), PENDING);
        due("above, though one waits for it", x.send(1, 0, 5, 11, true), INVALID);
        due("it waits on", x.result(2), PENDING);
        due("for user 0, too", x.send(0, 0, 5, 11, true), INVALID);
        due("as room, to the taker", x.send(1, 0, 5, 10, true), 0);
    }

    // Promise 14: "ACCESS (2)"
    private static void sendAccess() {
        QueuesAndGates x = withRoom(10);
        for (int may = 0; may < 8; may++) {
            due("own", x.own(0, 0, 0, 0, 0, may), 0);
            due("by " + may, x.send(1, 0, 1, 1, true), (may & 2) != 0 ? 0 : ACCESS);
            due("INVALID goes ahead", x.send(1, 0, 1, 11, true), INVALID);
        }
        due("sent", x.count(6), 4);
        due("own", x.own(0, 0, 0, 0, 0, 5), 0);
        due("ahead of AGAIN", x.send(1, 0, 1, 10, true), ACCESS);
        due("ahead of PENDING", x.send(1, 0, 1, 10, false), ACCESS);
        due("none waits", x.count(2), 0);
    }

    // Promise 14: "where no TAKER has it and it does not FIT, AGAIN by nowait, else it WAITS: PENDING"
    private static void sendAgain() {
        QueuesAndGates x = withRoom(10);
        due("send", x.send(1, 0, 9, 10, true), 0);
        due("by nowait", x.send(1, 0, 1, 1, true), AGAIN);
        due("RESULT", x.result(1), AGAIN);
        due("none waits", x.count(2), 0);
        due("else", x.send(1, 0, 1, 1, false), PENDING);
        due("RESULT", x.result(1), PENDING);
        due("one waits", x.queueOf(0, 10), 1);
        due("it may not", x.send(1, 0, 1, 1, true), NOT);
        due("waits", x.take(2, 0, 9, 5, 0), PENDING);
        due("a taker has it", x.send(3, 0, 5, 1, true), 0);
        due("waits", x.take(2, 0, 9, 5, 0), PENDING);
        due("a taker has it", x.send(3, 0, 5, 2, false), 0);
        due("the taker", x.result(2), 2);
        due("it fits, though one waits", x.send(3, 0, 5, 0, true), 0);
        due("no sender is passed by a taker", x.queueOf(0, 10), 1);
    }

    // Promise 14: "PENDING (with the bytes as they were)"
    private static void sendAsTheBytesWere() {
        QueuesAndGates x = withRoom(10);
        due("send", x.send(0, 0, 9, 10, true), 0);
        x.area(1, 0, 21);
        x.area(1, 1, 22);
        due("waits", x.send(1, 0, 3, 2, false), PENDING);
        due("the area", x.area(1, 0, 31), 21);
        due("the area", x.area(1, 1, 32), 22);
        due("take", x.take(0, 0, 10, 0, 1), 10);
        due("as it was", x.message(0, 0, 2), 21);
        due("as it was", x.message(0, 0, 3), 22);
        due("the area", x.area(1, 0, 41), 31);
        due("in the row, too", x.message(0, 0, 2), 21);
    }

    // Promise 15: "at most n bytes (0 .. 64)"; "OUTSIDE: n"
    private static void takeBytes() {
        QueuesAndGates x = withRoom(100);
        due("send", x.send(0, 0, 1, 64, true), 0);
        for (int n : new int[] {-1, 65, Integer.MIN_VALUE, Integer.MAX_VALUE}) {
            due(n + " bytes", x.take(1, 0, n, 0, 1), OUTSIDE);
            due("cut", x.take(1, 0, n, 0, 3), OUTSIDE);
            due("ahead of INVALID", x.take(1, 9, n, 0, 1), OUTSIDE);
        }
        due("RESULT", x.result(1), OUTSIDE);
        due("it stays", x.count(6), 1);
        due("the most", x.take(1, 0, 64, 0, 1), 64);
        due("send", x.send(0, 0, 1, 0, true), 0);
        due("the least", x.take(1, 0, 0, 0, 1), 0);
    }

    // Promise 15: "OUTSIDE: .. way (0 .. 7)"
    private static void takeWay() {
        QueuesAndGates x = withRoom(100);
        due("send", x.send(0, 0, 5, 2, true), 0);
        due("send", x.send(0, 0, 4, 2, true), 0);
        for (int way : new int[] {-1, 8, 9, Integer.MIN_VALUE, Integer.MIN_VALUE + 1, Integer.MAX_VALUE}) {
            due("way " + way, x.take(1, 0, 9, 0, way), OUTSIDE);
            due("ahead of INVALID", x.take(1, 9, 9, 0, way), OUTSIDE);
        }
        due("both stay", x.count(6), 2);
        due("the greatest: cut, of others", x.take(1, 0, 1, 5, 7), 1);
        due("its type", x.taken(1), 4);
        due("the greatest: nowait", x.take(1, 0, 1, 5, 7), NOMESSAGE);
        due("the least", x.take(1, 0, 1, 5, 0), TOOBIG);
        due("the least", x.take(1, 0, 1, 6, 0), PENDING);
    }

    // Promise 15: "INVALID"
    private static void takeInvalid() {
        QueuesAndGates x = withRoom(100);
        due("a set", x.set(0, 1, 1, 1023), 0);
        due("a set", x.set(0, 2, 1, 1023), 1);
        due("send", x.send(0, 0, 1, 1, true), 0);
        for (int id : new int[] {-1, -12, 1, 11, 12, 24, Integer.MIN_VALUE, Integer.MIN_VALUE + 8, Integer.MAX_VALUE}) {
            due("id " + id, x.take(0, id, 1, 0, 1), INVALID);
            due("it would wait", x.take(0, id, 1, 0, 0), INVALID);
        }
        due("RESULT", x.result(0), INVALID);
        due("it stays", x.count(6), 1);
        due("none waits", x.count(2), 0);
    }

    // Promise 15: "ACCESS (4)"
    private static void takeAccess() {
        QueuesAndGates x = withRoom(100);
        for (int may = 0; may < 8; may++) {
            due("send", x.send(0, 0, 1, 1, true), 0);
            due("own", x.own(0, 0, 0, 0, 0, may), 0);
            due("by " + may, x.take(1, 0, 1, 0, 1), (may & 4) != 0 ? 1 : ACCESS);
        }
        due("left", x.count(6), 4);
        due("own", x.own(0, 0, 0, 0, 0, 3), 0);
        due("ahead of TOOBIG", x.take(1, 0, 0, 0, 1), ACCESS);
        due("ahead of NOMESSAGE", x.take(1, 0, 1, 9, 1), ACCESS);
        due("ahead of PENDING", x.take(1, 0, 1, 9, 0), ACCESS);
        due("RESULT", x.result(1), ACCESS);
        due("none waits", x.count(2), 0);
    }

    // Promise 15: "TOOBIG": by nowait or not, for those that MAY
    private static void takeTooBig() {
        QueuesAndGates x = withRoom(100);
        due("send", x.send(0, 0, 5, 1, true), 0);
        for (int way : new int[] {0, 1, 4, 5}) {
            due("way " + way, x.take(1, 0, 0, 0, way), TOOBIG);
        }
        due("RESULT", x.result(1), TOOBIG);
        due("it stays", x.count(6), 1);
        due("cut", x.take(1, 0, 0, 0, 2), 0);
    }

    // Promise 15: "NOMESSAGE: none is WANTED, by nowait"
    private static void takeNoMessage() {
        QueuesAndGates x = withRoom(100);
        for (int way : new int[] {1, 3, 5, 7}) {
            due("of an empty one", x.take(1, 0, 9, 5, way), NOMESSAGE);
        }
        due("send", x.send(0, 0, 5, 1, true), 0);
        due("none of 4", x.take(1, 0, 9, 4, 1), NOMESSAGE);
        due("none but 5", x.take(1, 0, 9, 5, 5), NOMESSAGE);
        due("none up to 4", x.take(1, 0, 9, -4, 1), NOMESSAGE);
        due("none up to 4, for no bytes", x.take(1, 0, 0, -4, 1), NOMESSAGE);
        due("RESULT", x.result(1), NOMESSAGE);
        due("none waits", x.count(2), 0);
        due("send", x.send(0, 0, 4, 1, true), 0);
        due("no taker was left", x.count(6), 2);
    }

    // Promise 15: "or it WAITS: PENDING"
    private static void takeWaits() {
        QueuesAndGates x = withRoom(100);
        int[] ways = {0, 2, 4, 6};
        for (int i = 0; i < ways.length; i++) {
            due("of an empty one", x.take(1 + i, 0, 9, 5, ways[i]), PENDING);
            due("RESULT", x.result(1 + i), PENDING);
        }
        due("it may not", x.take(1, 0, 9, 5, 1), NOT);
        due("RESULT stays", x.result(1), PENDING);
        due("takers", x.queueOf(0, 11), 4);
        due("senders", x.queueOf(0, 10), 0);
        due("wait", x.count(2), 4);
    }
}

/** The edges that Terms 1 and 4 (things) and promises 9 to 13 name: a method for each sentence, on an object of its own. */
public final class EdgesOfThingsTest extends Check {
    private static final int[] NO_NAMES = {-1, 100, Integer.MIN_VALUE, Integer.MAX_VALUE};
    private static final int[] NO_IDS = {-1, -12, 1, 11, 12, 24, 120, Integer.MIN_VALUE, Integer.MIN_VALUE + 8, Integer.MAX_VALUE};

    public static void main(String[] args) {
        slots();
        idsByWhatWasThere();
        keyNone();
        ownerAndMaker();
        for (int mode : new int[] {0000, 0777, 0421, 0214, 0142, 0356, 0563, 0635}) {
            may(mode);
        }
        rules();
        roomAtFirst();
        queueKeyBounds();
        queueWayBounds();
        queueMadeBy512();
        queueByKey0();
        queueMode();
        queueExists();
        queueWanted();
        queueAbsent();
        queueAccess();
        queueFull();
        queueLeastFree();
        setKeyBounds();
        setCountBounds();
        setWayBounds();
        setAbsent();
        setExists();
        setTooMany();
        setTooManyAheadOfAccess();
        setOfNone();
        setFull();
        removeOf();
        removeInvalid();
        removeAccess();
        removedTakers();
        removedSenders();
        removedSteppers();
        removedKeyAndId();
        removedUndoes();
        removedLetsIn();
        ownOf();
        ownNames();
        ownMode();
        ownInvalid();
        ownAccess();
        roomBounds();
        roomInvalid();
        roomRules();
        roomMore();
        roomLetsIn();
        roomBelowASender();
        roomBelowBytes();
        end();
    }

    /** Processes of the users 0, 5, 6, 7, 8, 9 and groups 0, 50, 60, 70, 50, 90. */
    private static QueuesAndGates withUsers() {
        QueuesAndGates x = new QueuesAndGates();
        int[] users = {0, 5, 6, 7, 8, 9};
        int[] groups = {0, 50, 60, 70, 50, 90};
        for (int p = 0; p < users.length; p++) {
            due("process", x.process(users[p], groups[p]), p);
        }
        return x;
    }

    // Terms 1: "QUEUES and SETS (each its own 12 SLOTS, 0 .. 11)"
    private static void slots() {
        QueuesAndGates x = withProcesses(2);
        for (int slot = 0; slot < 12; slot++) {
            due("queue", x.queue(1, 0, 511), slot);
        }
        due("no 13th", x.queue(1, 0, 511), FULL);
        for (int slot = 0; slot < 12; slot++) {
            due("set", x.set(1, 0, 1, 511), slot);
        }
        due("no 13th", x.set(1, 0, 1, 511), FULL);
        due("queues", x.count(3), 12);
        due("sets", x.count(4), 12);
        due("the last", x.queueOf(11, 0), 11);
        due("the last", x.setOf(11, 0), 11);
    }

    // Terms 1: "an ID: its SLOT, and 12 times how many THINGS of its sort were in that SLOT before"
    private static void idsByWhatWasThere() {
        QueuesAndGates x = withProcesses(2);
        for (int slot = 0; slot < 12; slot++) {
            due("queue", x.queue(1, 0, 511), slot);
        }
        for (int times = 0; times < 20; times++) {
            due("remove", x.remove(1, 0, 11 + 12 * times), 0);
            due("queue", x.queue(1, 0, 511), 23 + 12 * times);
        }
        due("remove", x.remove(1, 0, 3), 0);
        due("of that slot", x.queue(1, 0, 511), 15);
        due("of its sort", x.set(1, 0, 1, 511), 0);
        due("remove", x.remove(1, 1, 0), 0);
        due("set", x.set(1, 0, 1, 511), 12);
        due("queue 0 stays", x.queueOf(0, 0), 0);
    }

    // Terms 1: "a KEY (0: none)"
    private static void keyNone() {
        QueuesAndGates x = withProcesses(2);
        due("queue", x.queue(1, 0, 511), 0);
        due("its key", x.queueOf(0, 1), 0);
        due("none has it", x.queue(1, 0, 512), 1);
        due("nor is it there", x.queue(1, 0, 512 + 1024), 2);
        due("set", x.set(1, 0, 1, 511), 0);
        due("its key", x.setOf(0, 1), 0);
        due("none has it", x.set(1, 0, 8, 512 + 1024), 1);
    }

    // Terms 1: "an OWNER and a MAKER (each a USER and a GROUP: those of the PROCESS that made it)"
    private static void ownerAndMaker() {
        QueuesAndGates x = new QueuesAndGates();
        due("process", x.process(99, 98), 0);
        due("process", x.process(0, 1), 1);
        due("queue", x.queue(0, 1, 1023), 0);
        due("queue", x.queue(1, 1, 512), 0);
        due("set", x.set(1, 1, 1, 1023), 0);
        due("set", x.set(0, 1, 1, 512), 0);
        int[] queue = {99, 98, 99, 98};
        int[] set = {0, 1, 0, 1};
        for (int what = 2; what <= 5; what++) {
            due("queueOf(0, " + what + ")", x.queueOf(0, what), queue[what - 2]);
            due("setOf(0, " + what + ")", x.setOf(0, what), set[what - 2]);
        }
    }

    // Terms 1: "MAY of a PROCESS: 7 for USER 0; else, if its USER is that of OWNER or MAKER, the bits 6 .. 8 of MODE;
    // else, if its GROUP is that of one, the bits 3 .. 5; else 0 .. 2."
    private static void may(int mode) {
        QueuesAndGates x = withUsers();
        // The maker is of user 5 and group 50, the owner of user 6 and group 70.
        due("queue", x.queue(1, 1, 1023), 0);
        due("own", x.own(0, 0, 0, 6, 70, mode), 0);
        int[] may = {7, mode >> 6, mode >> 6, mode >> 3 & 7, mode >> 3 & 7, mode & 7};
        for (int p = 0; p < may.length; p++) {
            for (int bits = 0; bits < 8; bits++) {
                int want = (bits & may[p]) == bits ? 0 : ACCESS;
                due(p + " wants " + bits + " of " + mode, x.queue(p, 1, bits), want);
            }
        }
    }

    // Terms 1: "It RULES, if its USER is 0, or that of OWNER or MAKER."
    private static void rules() {
        QueuesAndGates x = withUsers();
        due("queue", x.queue(1, 1, 512 + 0777), 0);
        due("own", x.own(1, 0, 0, 6, 70, 0777), 0);
        due("user 0", x.room(0, 0, 100), 0);
        due("the maker", x.room(1, 0, 99), 0);
        due("the owner", x.room(2, 0, 98), 0);
        due("of the owner's group", x.room(3, 0, 97), ACCESS);
        due("of the maker's group", x.room(4, 0, 97), ACCESS);
        due("another", x.room(5, 0, 97), ACCESS);
        due("an owner anew", x.own(2, 0, 0, 7, 70, 0000), 0);
        due("the owner, by no bits", x.room(3, 0, 97), 0);
        due("an owner no more", x.room(2, 0, 96), ACCESS);
    }

    // Terms 1: "a ROOM (256 at first)"
    private static void roomAtFirst() {
        QueuesAndGates x = withProcesses(2);
        due("queue", x.queue(1, 1, 1023), 0);
        due("room", x.queueOf(0, 8), 256);
        for (int i = 0; i < 4; i++) {
            due("send", x.send(1, 0, 1, 64, true), 0);
        }
        due("a byte more", x.send(1, 0, 1, 1, true), AGAIN);
        due("room", x.room(1, 0, 10), 0);
        due("remove", x.remove(1, 0, 0), 0);
        due("queue", x.queue(1, 1, 1023), 12);
        due("at first again", x.queueOf(0, 8), 256);
    }

    // Promise 9: "a KEY (0 .. 1000000)"; "OUTSIDE: KEY"
    private static void queueKeyBounds() {
        QueuesAndGates x = withProcesses(2);
        for (int key : new int[] {-1, 1000001, Integer.MIN_VALUE, Integer.MAX_VALUE}) {
            due("queue by " + key, x.queue(1, key, 512), OUTSIDE);
        }
        due("RESULT", x.result(1), OUTSIDE);
        due("none made", x.count(3), 0);
        due("least", x.queue(1, 0, 512), 0);
        due("1", x.queue(1, 1, 512), 1);
        due("greatest", x.queue(1, 1000000, 512), 2);
        due("its key", x.queueOf(2, 1), 1000000);
    }

    // Promise 9: "OUTSIDE: .. way (0 .. 2047)"
    private static void queueWayBounds() {
        QueuesAndGates x = withProcesses(2);
        for (int way : new int[] {-1, 2048, Integer.MIN_VALUE, Integer.MIN_VALUE + 512, Integer.MAX_VALUE}) {
            due("way " + way, x.queue(1, 1, way), OUTSIDE);
            due("way " + way, x.queue(1, 0, way), OUTSIDE);
        }
        due("none made", x.count(3), 0);
        due("least", x.queue(1, 0, 0), 0);
        due("greatest", x.queue(1, 1, 2047), 1);
    }

    // Promise 9: "way: 512 makes one where there is none"
    private static void queueMadeBy512() {
        QueuesAndGates x = withProcesses(2);
        due("made", x.queue(1, 1, 512), 0);
        due("there is one", x.queue(1, 1, 512), 0);
        due("one alone", x.count(3), 1);
        due("another key", x.queue(1, 2, 512), 1);
    }

    // Promise 9: "(by KEY 0 always ..)"
    private static void queueByKey0() {
        QueuesAndGates x = withProcesses(2);
        int[] ways = {0, 511, 512, 1024, 1536, 2047};
        for (int i = 0; i < ways.length; i++) {
            due("way " + ways[i], x.queue(1, 0, ways[i]), i);
        }
        due("six", x.count(3), 6);
    }

    // Promise 9: "MODE are its lowest 9 bits"
    private static void queueMode() {
        QueuesAndGates x = withProcesses(2);
        due("none", x.queue(1, 1, 512), 0);
        due("none", x.queueOf(0, 6), 0);
        due("all", x.queue(1, 2, 2047), 1);
        due("all", x.queueOf(1, 6), 511);
        due("the lowest", x.queue(1, 3, 512 + 1), 2);
        due("the lowest", x.queueOf(2, 6), 1);
        due("the highest", x.queue(1, 4, 512 + 256), 3);
        due("the highest", x.queueOf(3, 6), 256);
        due("of one that is there it stays", x.queue(0, 4, 512 + 7), 3);
        due("the highest", x.queueOf(3, 6), 256);
    }

    // Promise 9: "1024 with 512: EXISTS where there is one"
    private static void queueExists() {
        QueuesAndGates x = withProcesses(3);
        due("where there is none", x.queue(1, 1, 1536), 0);
        due("where there is one", x.queue(1, 1, 1536), EXISTS);
        due("RESULT", x.result(1), EXISTS);
        due("for user 0, too", x.queue(0, 1, 1536), EXISTS);
        due("ahead of ACCESS", x.queue(2, 1, 1536 + 7), EXISTS);
        due("1024 alone", x.queue(1, 1, 1024), 0);
        due("512 alone", x.queue(1, 1, 512), 0);
    }

    // Promise 9: "all of the bits 6 .. 8, 3 .. 5, 0 .. 2, each taken down to 0 .. 2, together"
    private static void queueWanted() {
        QueuesAndGates x = withProcesses(3);
        for (int may = 0; may < 8; may++) {
            due("queue", x.queue(0, may + 1, 512 + may), may);
            for (int bit = 0; bit < 9; bit++) {
                int want = (may >> bit % 3 & 1) == 1 ? may : ACCESS;
                due("bit " + bit + " of " + may, x.queue(1, may + 1, 1 << bit), want);
            }
            due("4, 2 and 1 from three places", x.queue(1, may + 1, 0421), may == 7 ? 7 : ACCESS);
            due("4 and 2 from two places", x.queue(1, may + 1, 0402), may >= 6 ? may : ACCESS);
            due("none", x.queue(1, may + 1, 0), may);
        }
    }

    // Promise 9: "ABSENT: none, without 512"
    private static void queueAbsent() {
        QueuesAndGates x = withProcesses(2);
        for (int way : new int[] {0, 511, 1024, 1535}) {
            due("way " + way, x.queue(1, 1, way), ABSENT);
            due("for user 0, too", x.queue(0, 1000000, way), ABSENT);
        }
        due("RESULT", x.result(1), ABSENT);
        due("none made", x.count(3), 0);
        due("a set", x.set(1, 1, 1, 1023), 0);
        due("is no queue", x.queue(1, 1, 0), ABSENT);
    }

    // Promise 9: "ACCESS: MAY has not all that is wanted"
    private static void queueAccess() {
        QueuesAndGates x = withProcesses(3);
        due("queue", x.queue(1, 1, 512 + 0205), 0);
        due("one of two", x.queue(2, 1, 6), ACCESS);
        due("RESULT", x.result(2), ACCESS);
        due("all", x.queue(2, 1, 5), 0);
        due("with 512, too", x.queue(2, 1, 512 + 2), ACCESS);
        due("none made", x.count(3), 1);
    }

    // Promise 9: "FULL: no SLOT"
    private static void queueFull() {
        QueuesAndGates x = withProcesses(3);
        for (int key = 1; key <= 12; key++) {
            due("queue", x.queue(1, key, 512 + 0700), key - 1);
        }
        due("by a new key", x.queue(1, 13, 1023), FULL);
        due("RESULT", x.result(1), FULL);
        due("by key 0", x.queue(1, 0, 0), FULL);
        due("to be new", x.queue(1, 13, 2047), FULL);
        due("ABSENT goes ahead", x.queue(1, 13, 511), ABSENT);
        due("one that is there", x.queue(1, 12, 512 + 7), 11);
        due("EXISTS", x.queue(1, 12, 1536), EXISTS);
        due("ACCESS", x.queue(2, 12, 512 + 1), ACCESS);
        due("twelve", x.count(3), 12);
        due("a set has a slot", x.set(1, 13, 1, 1023), 0);
    }

    // Promise 9: "(the least free one is taken)"
    private static void queueLeastFree() {
        QueuesAndGates x = withProcesses(2);
        for (int slot = 0; slot < 12; slot++) {
            due("queue", x.queue(1, 0, 511), slot);
        }
        due("remove", x.remove(1, 0, 11), 0);
        due("remove", x.remove(1, 0, 0), 0);
        due("remove", x.remove(1, 0, 5), 0);
        due("the least", x.queue(1, 0, 511), 12);
        due("the next", x.queue(1, 0, 511), 17);
        due("the last", x.queue(1, 0, 511), 23);
        due("none", x.queue(1, 0, 511), FULL);
    }

    // Promise 10: "Likewise": "OUTSIDE: KEY"
    private static void setKeyBounds() {
        QueuesAndGates x = withProcesses(2);
        for (int key : new int[] {-1, 1000001, Integer.MIN_VALUE, Integer.MAX_VALUE}) {
            due("set by " + key, x.set(1, key, 1, 512), OUTSIDE);
        }
        due("none made", x.count(4), 0);
        due("least", x.set(1, 0, 1, 512), 0);
        due("greatest", x.set(1, 1000000, 1, 512), 1);
        due("its key", x.setOf(1, 1), 1000000);
    }

    // Promise 10: "OUTSIDE: also n not 0 .. 8"; Terms 1: "A SET has 1 .. 8 COUNTERS"
    private static void setCountBounds() {
        QueuesAndGates x = withProcesses(2);
        for (int n : new int[] {-1, 9, Integer.MIN_VALUE, Integer.MAX_VALUE}) {
            due("set of " + n, x.set(1, 1, n, 512), OUTSIDE);
            due("ahead of ABSENT", x.set(1, 1, n, 0), OUTSIDE);
        }
        due("none made", x.count(4), 0);
        due("least", x.set(1, 1, 1, 1023), 0);
        due("greatest", x.set(1, 2, 8, 1023), 1);
        due("the only one", x.counter(0, 0, 0), 0);
        due("none beyond", x.counter(0, 1, 0), NONE);
        due("the last", x.counter(1, 7, 0), 0);
        due("none beyond", x.counter(1, 8, 0), NONE);
        due("of one that is there", x.set(1, 2, 9, 0), OUTSIDE);
        due("of one that is there", x.set(1, 2, -1, 0), OUTSIDE);
    }

    // Promise 10: "Likewise": "OUTSIDE: .. way (0 .. 2047)"
    private static void setWayBounds() {
        QueuesAndGates x = withProcesses(2);
        for (int way : new int[] {-1, 2048, Integer.MIN_VALUE, Integer.MIN_VALUE + 512, Integer.MAX_VALUE}) {
            due("way " + way, x.set(1, 1, 1, way), OUTSIDE);
            due("way " + way, x.set(1, 0, 1, way), OUTSIDE);
        }
        due("none made", x.count(4), 0);
        due("least", x.set(1, 0, 1, 0), 0);
        due("its mode", x.setOf(0, 6), 0);
        due("greatest", x.set(1, 1, 1, 2047), 1);
        due("its mode", x.setOf(1, 6), 511);
    }

    // Promise 10: "Likewise": "ABSENT: none, without 512"
    private static void setAbsent() {
        QueuesAndGates x = withProcesses(2);
        for (int way : new int[] {0, 511, 1024, 1535}) {
            due("way " + way, x.set(1, 1, 1, way), ABSENT);
            due("of 0", x.set(1, 1, 0, way), ABSENT);
        }
        due("none made", x.count(4), 0);
        due("a queue", x.queue(1, 1, 1023), 0);
        due("is no set", x.set(1, 1, 1, 0), ABSENT);
    }

    // Promise 10: "Likewise": "1024 with 512: EXISTS where there is one"
    private static void setExists() {
        QueuesAndGates x = withProcesses(3);
        due("where there is none", x.set(1, 1, 2, 1536), 0);
        due("where there is one", x.set(1, 1, 2, 1536), EXISTS);
        due("ahead of INVALID", x.set(1, 1, 3, 1536), EXISTS);
        due("ahead of ACCESS", x.set(2, 1, 2, 1536 + 7), EXISTS);
        due("1024 alone", x.set(1, 1, 2, 1024), 0);
        due("512 alone", x.set(1, 1, 2, 512), 0);
        due("by key 0 never", x.set(1, 0, 2, 1536), 1);
    }

    // Promise 10: "INVALID: n is above how many one that is there has"
    private static void setTooMany() {
        QueuesAndGates x = withProcesses(3);
        for (int n = 1; n <= 8; n++) {
            due("set", x.set(1, n, n, 1023), n - 1);
            due("none", x.set(2, n, 0, 0), n - 1);
            due("one", x.set(2, n, 1, 512), n - 1);
            due("as many", x.set(2, n, n, 0), n - 1);
            due("one more", x.set(2, n, n + 1, 0), n == 8 ? OUTSIDE : INVALID);
            due("one more, for user 0", x.set(0, n, n + 1, 512), n == 8 ? OUTSIDE : INVALID);
            due("as many as before", x.setOf(n - 1, 7), n);
        }
    }

    // Promise 10: "(behind EXISTS, ahead of ACCESS)"
    private static void setTooManyAheadOfAccess() {
        QueuesAndGates x = withProcesses(3);
        due("set", x.set(1, 1, 2, 512 + 0700), 0);
        due("ahead of ACCESS", x.set(2, 1, 3, 4), INVALID);
        due("RESULT", x.result(2), INVALID);
        due("ACCESS", x.set(2, 1, 2, 4), ACCESS);
        due("RESULT", x.result(2), ACCESS);
        due("ACCESS of none", x.set(2, 1, 0, 1), ACCESS);
        due("behind EXISTS", x.set(2, 1, 3, 1536 + 4), EXISTS);
    }

    // Promise 10: "INVALID: .. 0 of one that is to be made (ahead of FULL)"
    private static void setOfNone() {
        QueuesAndGates x = withProcesses(2);
        due("by a key", x.set(1, 1, 0, 512), INVALID);
        due("RESULT", x.result(1), INVALID);
        due("to be new", x.set(1, 1, 0, 2047), INVALID);
        due("by key 0", x.set(1, 0, 0, 0), INVALID);
        due("none made", x.count(4), 0);
        for (int slot = 0; slot < 12; slot++) {
            due("set", x.set(1, 0, 1, 511), slot);
        }
        due("ahead of FULL", x.set(1, 1, 0, 512), INVALID);
        due("ahead of FULL", x.set(1, 0, 0, 0), INVALID);
        due("FULL", x.set(1, 0, 1, 0), FULL);
    }

    // Promise 10: "Likewise": "FULL: no SLOT (the least free one is taken)"
    private static void setFull() {
        QueuesAndGates x = withProcesses(3);
        for (int key = 1; key <= 12; key++) {
            due("set", x.set(1, key, 1, 512 + 0700), key - 1);
        }
        due("by a new key", x.set(1, 13, 1, 1023), FULL);
        due("RESULT", x.result(1), FULL);
        due("by key 0", x.set(1, 0, 1, 0), FULL);
        due("ABSENT goes ahead", x.set(1, 13, 1, 511), ABSENT);
        due("one that is there", x.set(1, 12, 1, 512), 11);
        due("INVALID of it", x.set(1, 12, 2, 512), INVALID);
        due("remove", x.remove(1, 1, 10), 0);
        due("remove", x.remove(1, 1, 1), 0);
        due("the least free", x.set(1, 13, 1, 512), 13);
        due("the next", x.set(1, 0, 1, 0), 22);
        due("no more", x.set(1, 0, 1, 0), FULL);
    }

    // Promise 11: "OUTSIDE: of"
    private static void removeOf() {
        QueuesAndGates x = withProcesses(2);
        due("queue", x.queue(1, 1, 1023), 0);
        due("set", x.set(1, 1, 1, 1023), 0);
        for (int of : new int[] {-1, 2, Integer.MIN_VALUE, Integer.MAX_VALUE}) {
            due("of " + of, x.remove(1, of, 0), OUTSIDE);
            due("ahead of INVALID", x.remove(1, of, 5), OUTSIDE);
        }
        due("RESULT", x.result(1), OUTSIDE);
        due("none removed", x.count(3) + x.count(4), 2);
        due("a queue", x.remove(1, 0, 0), 0);
        due("the set stays", x.count(4), 1);
        due("a set", x.remove(1, 1, 0), 0);
        due("none", x.count(4), 0);
    }

    // Promise 11: "INVALID"
    private static void removeInvalid() {
        QueuesAndGates x = withProcesses(2);
        due("queue", x.queue(1, 1, 1023), 0);
        due("set", x.set(1, 1, 1, 1023), 0);
        for (int of = 0; of < 2; of++) {
            for (int id : NO_IDS) {
                due("id " + id, x.remove(1, of, id), INVALID);
            }
        }
        due("RESULT", x.result(1), INVALID);
        due("none removed", x.count(3) + x.count(4), 2);
        due("remove", x.remove(1, 0, 0), 0);
        due("twice", x.remove(1, 0, 0), INVALID);
        due("not yet", x.remove(1, 0, 12), INVALID);
        due("anew", x.queue(1, 1, 1023), 12);
        due("that of before", x.remove(1, 0, 0), INVALID);
        due("the new one", x.remove(1, 0, 12), 0);
    }

    // Promise 11: "ACCESS: it does not RULE."
    private static void removeAccess() {
        QueuesAndGates x = withUsers();
        due("queue", x.queue(1, 1, 1023), 0);
        due("set", x.set(1, 1, 1, 1023), 0);
        for (int of = 0; of < 2; of++) {
            due("own", x.own(1, of, 0, 6, 70, 0777), 0);
            for (int p = 3; p <= 5; p++) {
                due("process " + p, x.remove(p, of, 0), ACCESS);
                due("RESULT", x.result(p), ACCESS);
            }
            due("still there", x.count(3 + of), 1);
        }
        due("by the owner", x.remove(2, 0, 0), 0);
        due("by the maker", x.remove(1, 1, 0), 0);
        due("queue", x.queue(1, 1, 512), 12);
        due("by user 0", x.remove(0, 0, 12), 0);
    }

    // Terms 4: "A THING that is removed: those that WAIT on it have RESULT GONE, and go on"
    private static void removedTakers() {
        QueuesAndGates x = withProcesses(6);
        due("queue", x.queue(1, 1, 1023), 0);
        due("queue", x.queue(1, 2, 1023), 1);
        due("waits", x.take(2, 0, 1, 0, 0), PENDING);
        due("on the other", x.take(3, 1, 1, 0, 0), PENDING);
        due("waits", x.take(4, 0, 1, 7, 0), PENDING);
        due("waits", x.take(5, 0, 1, -7, 0), PENDING);
        due("remove", x.remove(1, 0, 0), 0);
        for (int p : new int[] {2, 4, 5}) {
            due("gone", x.result(p), GONE);
            due("goes on", x.take(p, 0, 1, 0, 0), INVALID);
        }
        due("on the other", x.result(3), PENDING);
        due("one waits", x.count(2), 1);
        due("send", x.send(1, 1, 1, 1, true), 0);
        due("the other has it", x.result(3), 1);
    }

    private static void removedSenders() {
        QueuesAndGates x = withProcesses(6);
        for (int id = 0; id < 2; id++) {
            due("queue", x.queue(1, id + 1, 1023), id);
            due("room", x.room(1, id, 1), 0);
            due("full", x.send(1, id, 1, 1, true), 0);
        }
        due("waits", x.send(2, 0, 1, 1, false), PENDING);
        due("on the other", x.send(3, 1, 1, 1, false), PENDING);
        due("waits", x.send(4, 0, 1, 1, false), PENDING);
        due("remove", x.remove(1, 0, 0), 0);
        due("gone", x.result(2), GONE);
        due("gone", x.result(4), GONE);
        due("on the other", x.result(3), PENDING);
        due("one waits", x.count(2), 1);
        due("its messages are gone", x.count(6), 1);
        due("its bytes are gone", x.count(5), 1);
        due("anew", x.queue(1, 1, 1023), 12);
        due("nothing comes in", x.queueOf(0, 9), 0);
    }

    private static void removedSteppers() {
        QueuesAndGates x = withProcesses(6);
        due("set", x.set(1, 1, 2, 1023), 0);
        due("set", x.set(1, 2, 2, 1023), 1);
        due("waits", stepped(x, 2, 0, 0, -1, 0), PENDING);
        due("on the other", stepped(x, 3, 1, 0, -1, 0), PENDING);
        due("waits", stepped(x, 4, 0, 1, -1, 2), PENDING);
        due("remove", x.remove(1, 1, 0), 0);
        due("gone", x.result(2), GONE);
        due("gone", x.result(4), GONE);
        due("on the other", x.result(3), PENDING);
        due("one waits", x.count(2), 1);
        due("its steps are none", x.steps(2, 1), INVALID);
        due("anew", x.set(1, 1, 2, 1023), 12);
        due("none waits on it", x.setOf(0, 8), 0);
        due("value", x.value(1, 12, 0, 9), 0);
        due("none has it", x.counter(0, 0, 0), 9);
    }

    // Terms 4: "its KEY, ID mean nothing any more"
    private static void removedKeyAndId() {
        QueuesAndGates x = withProcesses(2);
        due("queue", x.queue(1, 1, 1023), 0);
        due("set", x.set(1, 1, 1, 1023), 0);
        due("remove", x.remove(1, 0, 0), 0);
        due("remove", x.remove(1, 1, 0), 0);
        due("key", x.queue(1, 1, 0), ABSENT);
        due("key", x.set(1, 1, 1, 0), ABSENT);
        due("id", x.send(1, 0, 1, 1, true), INVALID);
        due("id", x.take(1, 0, 1, 0, 1), INVALID);
        due("id", x.room(1, 0, 1), INVALID);
        due("id", x.own(1, 0, 0, 1, 1, 0), INVALID);
        due("id", x.own(1, 1, 0, 1, 1, 0), INVALID);
        due("id", x.value(1, 0, 0, 0), INVALID);
        due("id", stepped(x, 1, 0, 0, 1, 0), INVALID);
        due("slot", x.queueOf(0, 1), NONE);
        due("slot", x.setOf(0, 1), NONE);
        due("a new one by the key", x.queue(1, 1, 1536), 12);
        due("a new one by the key", x.set(1, 1, 1, 1536), 12);
    }

    // Terms 4: "UNDOES of it are 0"
    private static void removedUndoes() {
        QueuesAndGates x = withProcesses(3);
        due("set", x.set(1, 1, 2, 1023), 0);
        due("set", x.set(1, 2, 2, 1023), 1);
        due("undo", stepped(x, 1, 0, 1, 5, 2), 0);
        due("undo", stepped(x, 2, 0, 0, 6, 2), 0);
        due("of the other", stepped(x, 2, 1, 0, 7, 2), 0);
        due("remove", x.remove(1, 1, 0), 0);
        due("none", x.undo(1, 0, 1), 0);
        due("none", x.undo(2, 0, 0), 0);
        due("anew", x.set(1, 1, 2, 1023), 12);
        due("0", x.undo(1, 0, 1), 0);
        due("0", x.undo(2, 0, 0), 0);
        due("of the other", x.undo(2, 1, 0), -7);
        due("value", x.value(1, 12, 0, 9), 0);
        due("exit", x.exit(2), 1);
        due("nothing to undo", x.counter(0, 0, 0), 9);
        due("but of the other", x.counter(1, 0, 0), 0);
    }

    // Terms 4: "(Behind a QUEUE those that WAIT to SEND are looked at as behind a MESSAGE that left.)"
    private static void removedLetsIn() {
        QueuesAndGates x = withProcesses(5);
        due("queue", x.queue(0, 0, 511), 0);
        due("queue", x.queue(0, 0, 511), 1);
        due("room", x.room(0, 0, 1000), 0);
        for (int i = 0; i < 15; i++) {
            due("send", x.send(0, 0, 1, 64, true), 0);
        }
        due("1000 in all", x.send(0, 0, 1, 40, true), 0);
        due("waits", x.send(3, 1, 5, 64, false), PENDING);
        due("waits", x.send(2, 1, 6, 1, false), PENDING);
        due("waits on the one that goes", x.send(4, 0, 7, 1, false), PENDING);
        due("remove", x.remove(0, 0, 0), 0);
        due("the first", x.result(3), 0);
        due("the second", x.result(2), 0);
        due("gone", x.result(4), GONE);
        due("in turn", x.message(1, 0, 0), 5);
        due("in turn", x.message(1, 1, 0), 6);
        due("bytes", x.count(5), 65);
    }

    // Promise 12: "OUTSIDE: of"
    private static void ownOf() {
        QueuesAndGates x = withProcesses(2);
        due("queue", x.queue(1, 1, 1023), 0);
        due("set", x.set(1, 1, 1, 1023), 0);
        for (int of : new int[] {-1, 2, Integer.MIN_VALUE, Integer.MAX_VALUE}) {
            due("of " + of, x.own(1, of, 0, 9, 9, 9), OUTSIDE);
            due("ahead of INVALID", x.own(1, of, 5, 9, 9, 9), OUTSIDE);
        }
        due("RESULT", x.result(1), OUTSIDE);
        due("owner", x.queueOf(0, 2), 1);
        due("owner", x.setOf(0, 2), 1);
        due("of a set", x.own(1, 1, 0, 9, 9, 9), 0);
        due("owner", x.queueOf(0, 2), 1);
        due("owner", x.setOf(0, 2), 9);
    }

    // Promise 12: "OUTSIDE: .. USER, GROUP"
    private static void ownNames() {
        QueuesAndGates x = withProcesses(2);
        due("queue", x.queue(1, 1, 512), 0);
        for (int name : NO_NAMES) {
            due("user " + name, x.own(1, 0, 0, name, 9, 9), OUTSIDE);
            due("group " + name, x.own(1, 0, 0, 9, name, 9), OUTSIDE);
        }
        due("owner's user stays", x.queueOf(0, 2), 1);
        due("owner's group stays", x.queueOf(0, 3), 5);
        due("mode stays", x.queueOf(0, 6), 0);
        due("greatest and least", x.own(1, 0, 0, 99, 0, 9), 0);
        due("user", x.queueOf(0, 2), 99);
        due("group", x.queueOf(0, 3), 0);
        due("least and greatest", x.own(1, 0, 0, 0, 99, 9), 0);
        due("user", x.queueOf(0, 2), 0);
        due("group", x.queueOf(0, 3), 99);
    }

    // Promise 12: "MODE (0 .. 511)"; "OUTSIDE: .. MODE"
    private static void ownMode() {
        QueuesAndGates x = withProcesses(2);
        due("queue", x.queue(1, 1, 512 + 5), 0);
        for (int mode : new int[] {-1, 512, 1023, Integer.MIN_VALUE, Integer.MAX_VALUE}) {
            due("mode " + mode, x.own(1, 0, 0, 9, 9, mode), OUTSIDE);
        }
        due("mode stays", x.queueOf(0, 6), 5);
        due("owner stays", x.queueOf(0, 2), 1);
        due("greatest", x.own(1, 0, 0, 1, 1, 511), 0);
        due("mode", x.queueOf(0, 6), 511);
        due("least", x.own(1, 0, 0, 1, 1, 0), 0);
        due("mode", x.queueOf(0, 6), 0);
    }

    // Promise 12: "INVALID"
    private static void ownInvalid() {
        QueuesAndGates x = withProcesses(2);
        due("queue", x.queue(1, 1, 1023), 0);
        due("set", x.set(1, 1, 1, 1023), 0);
        for (int of = 0; of < 2; of++) {
            for (int id : NO_IDS) {
                due("id " + id, x.own(1, of, id, 9, 9, 9), INVALID);
            }
        }
        due("RESULT", x.result(1), INVALID);
        due("owner stays", x.queueOf(0, 2), 1);
        due("owner stays", x.setOf(0, 2), 1);
    }

    // Promise 12: "ACCESS: it does not RULE."
    private static void ownAccess() {
        QueuesAndGates x = withUsers();
        due("queue", x.queue(1, 1, 1023), 0);
        due("set", x.set(1, 1, 1, 1023), 0);
        for (int of = 0; of < 2; of++) {
            due("own", x.own(1, of, 0, 6, 70, 0777), 0);
            for (int p = 3; p <= 5; p++) {
                due("process " + p, x.own(p, of, 0, 9, 9, 9), ACCESS);
                due("RESULT", x.result(p), ACCESS);
            }
            due("the owner gives it away", x.own(2, of, 0, 9, 90, 0777), 0);
            due("and rules no more", x.own(2, of, 0, 6, 60, 0777), ACCESS);
            due("the new one does", x.own(5, of, 0, 8, 80, 0), 0);
            due("the maker does", x.own(1, of, 0, 5, 50, 0), 0);
            due("user 0 does", x.own(0, of, 0, 5, 50, 1), 0);
        }
        due("owner", x.queueOf(0, 2), 5);
        due("mode", x.setOf(0, 6), 1);
    }

    // Promise 13: "so many (0 .. 1000)"; "OUTSIDE"
    private static void roomBounds() {
        QueuesAndGates x = withProcesses(2);
        due("queue", x.queue(1, 1, 1023), 0);
        for (int bytes : new int[] {-1, 1001, Integer.MIN_VALUE, Integer.MAX_VALUE}) {
            due("room " + bytes, x.room(0, 0, bytes), OUTSIDE);
            due("ahead of INVALID", x.room(0, 1, bytes), OUTSIDE);
        }
        due("RESULT", x.result(0), OUTSIDE);
        due("room", x.queueOf(0, 8), 256);
        due("greatest", x.room(0, 0, 1000), 0);
        due("room", x.queueOf(0, 8), 1000);
        due("least", x.room(1, 0, 0), 0);
        due("room", x.queueOf(0, 8), 0);
    }

    // Promise 13: "INVALID"
    private static void roomInvalid() {
        QueuesAndGates x = withProcesses(2);
        due("queue", x.queue(1, 1, 1023), 0);
        due("set", x.set(1, 1, 1, 1023), 0);
        due("set", x.set(1, 2, 1, 1023), 1);
        for (int id : NO_IDS) {
            due("id " + id, x.room(0, id, 9), INVALID);
        }
        due("RESULT", x.result(0), INVALID);
        due("room", x.queueOf(0, 8), 256);
    }

    // Promise 13: "ACCESS: it does not RULE"
    private static void roomRules() {
        QueuesAndGates x = withUsers();
        due("queue", x.queue(1, 1, 1023), 0);
        due("own", x.own(1, 0, 0, 6, 70, 0777), 0);
        for (int p = 3; p <= 5; p++) {
            due("process " + p, x.room(p, 0, 9), ACCESS);
            due("as now", x.room(p, 0, 256), ACCESS);
            due("RESULT", x.result(p), ACCESS);
        }
        due("room", x.queueOf(0, 8), 256);
        due("the maker", x.room(1, 0, 255), 0);
        due("the owner", x.room(2, 0, 254), 0);
    }

    // Promise 13: "ACCESS: .. more than now by another USER than 0"
    private static void roomMore() {
        QueuesAndGates x = withProcesses(3);
        due("queue", x.queue(1, 1, 1023), 0);
        due("own", x.own(1, 0, 0, 2, 2, 0777), 0);
        due("by the maker", x.room(1, 0, 257), ACCESS);
        due("by the owner", x.room(2, 0, 257), ACCESS);
        due("RESULT", x.result(2), ACCESS);
        due("room", x.queueOf(0, 8), 256);
        due("as now", x.room(1, 0, 256), 0);
        due("less", x.room(2, 0, 10), 0);
        due("back again", x.room(2, 0, 11), ACCESS);
        due("by user 0", x.room(0, 0, 257), 0);
        due("room", x.queueOf(0, 8), 257);
    }

    // Promise 13: "then those that WAIT to SEND are looked at as behind a MESSAGE that left"
    private static void roomLetsIn() {
        QueuesAndGates x = withProcesses(6);
        due("queue", x.queue(0, 1, 1023), 0);
        due("room", x.room(0, 0, 10), 0);
        due("send", x.send(0, 0, 1, 10, true), 0);
        due("waits", x.send(4, 0, 4, 8, false), PENDING);
        due("waits", x.send(3, 0, 3, 3, false), PENDING);
        due("waits", x.send(2, 0, 2, 2, false), PENDING);
        due("for a taker", x.take(5, 0, 9, 3, 0), PENDING);
        due("a byte too few", x.room(0, 0, 11), 0);
        due("none", x.queueOf(0, 10), 3);
        due("for the last", x.room(0, 0, 12), 0);
        due("the last", x.result(2), 0);
        due("the others", x.queueOf(0, 10), 2);
        due("for the second", x.room(0, 0, 15), 0);
        due("to the taker", x.result(5), 3);
        due("the second", x.result(3), 0);
        due("the first", x.result(4), PENDING);
        due("bytes", x.queueOf(0, 7), 12);
        due("for all", x.room(0, 0, 20), 0);
        due("the first", x.result(4), 0);
        due("bytes", x.queueOf(0, 7), 20);
    }

    // Promise 13: those that WAIT to SEND more than the new ROOM wait on
    private static void roomBelowASender() {
        QueuesAndGates x = withProcesses(3);
        due("queue", x.queue(0, 1, 1023), 0);
        due("room", x.room(0, 0, 10), 0);
        due("send", x.send(0, 0, 1, 10, true), 0);
        due("waits", x.send(1, 0, 2, 8, false), PENDING);
        due("room", x.room(0, 0, 7), 0);
        due("take", x.take(0, 0, 10, 1, 1), 10);
        due("8 of 7", x.result(1), PENDING);
        due("7 of 7", x.send(0, 0, 3, 7, true), 0);
        due("room for 14", x.room(0, 0, 14), 0);
        due("it is too little", x.result(1), PENDING);
        due("room for 15", x.room(0, 0, 15), 0);
        due("sent", x.result(1), 0);
    }

    // Promise 13: "ROOM of a QUEUE becomes so many": less than its bytes, too; its messages stay
    private static void roomBelowBytes() {
        QueuesAndGates x = withProcesses(3);
        due("queue", x.queue(1, 1, 1023), 0);
        due("send", x.send(1, 0, 1, 30, true), 0);
        due("below its bytes", x.room(1, 0, 29), 0);
        due("room", x.queueOf(0, 8), 29);
        due("bytes", x.queueOf(0, 7), 30);
        due("no bytes do not fit", x.send(1, 0, 2, 0, true), AGAIN);
        due("to none", x.room(1, 0, 0), 0);
        due("a byte is above it", x.send(1, 0, 2, 1, true), INVALID);
        due("take", x.take(2, 0, 64, 0, 1), 30);
        due("no bytes fit now", x.send(1, 0, 2, 0, true), 0);
        due("messages", x.queueOf(0, 9), 1);
    }
}

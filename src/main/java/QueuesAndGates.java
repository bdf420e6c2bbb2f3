/** Queues of messages and sets of counters that processes share by keys, as System V has them. */
public final class QueuesAndGates {
    public static final int NONE = -1, UNKNOWN = -2, NOT = -3, OUTSIDE = -4, INVALID = -5, ACCESS = -6, EXISTS = -7, ABSENT = -8, FULL = -9, PENDING = -10, AGAIN = -11, NOMESSAGE = -12, TOOBIG = -13, GONE = -14, RANGE = -15, CUTOFF = -16;

    private static final int PROCESSES = 16, SLOTS = 12, AREA = 64, COUNTERS = 8, STEPS = 8;
    private static final int MESSAGES = 40, FIRST_ROOM = 256, TOP_ROOM = 1000, ALL_BYTES = 1000;
    private static final int TOP_NAME = 99, TOP_KEY = 1000000, TOP_MODE = 511, TOP_VALUE = 32767;
    private static final int READ = 4, WRITE = 2, EVERYTHING = 7;
    private static final int MAKE = 512, ONLY_NEW = 1024, TOP_OPENING = 2047;
    private static final int TAKE_NOWAIT = 1, TAKE_CUT = 2, TAKE_OTHERS = 4, TOP_TAKING = 7;
    private static final int STEP_NOWAIT = 1, STEP_UNDO = 2, TOP_STEPPING = 3;
    private static final int OF_QUEUES = 0, OF_SETS = 1;
    private static final int NOTHING = 0, TO_SEND = 1, TO_TAKE = 2, TO_STEP = 3;
    private static final int DONE = 0, STOPS = 1;

    private final Proc[] processes = new Proc[PROCESSES];
    private int came = 0;
    private final Thing[] queues = new Thing[SLOTS];
    private final Thing[] sets = new Thing[SLOTS];
    // One line for all that wait keeps the order in which they came, whatever each waits for.
    private final Proc[] line = new Proc[PROCESSES];
    private int waiting = 0;

    public QueuesAndGates() {
    }

    // ---- processes

    public int process(int user, int group) {
        if (!isWithin(user, TOP_NAME) || !isWithin(group, TOP_NAME)) {
            return OUTSIDE;
        }
        if (came >= PROCESSES) {
            return FULL;
        }
        int number = came;
        processes[number] = new Proc(number, user, group);
        came++;
        return number;
    }

    public int exit(int p) {
        Proc ending = processAt(p);
        if (ending == null) {
            return UNKNOWN;
        }
        if (!ending.lives) {
            return NOT;
        }
        if (ending.waitsFor != NOTHING) {
            goOn(ending, CUTOFF);
        }
        for (int slot = 0; slot < SLOTS; slot++) {
            CounterSet set = setIn(slot);
            if (set != null && set.takeBack(ending.number)) {
                serveAll(set);
            }
        }
        ending.lives = false;
        return 1;
    }

    public int signal(int p) {
        Proc waiter = processAt(p);
        if (waiter == null) {
            return UNKNOWN;
        }
        if (waiter.waitsFor == NOTHING) {
            return NOT;
        }
        goOn(waiter, CUTOFF);
        return 1;
    }

    public int result(int p) {
        Proc process = processAt(p);
        return process == null ? UNKNOWN : process.result;
    }

    public int area(int p, int i, int v) {
        Proc process = processAt(p);
        if (process == null) {
            return UNKNOWN;
        }
        if (!isWithin(i, AREA - 1) || !isWithin(v, 255)) {
            return OUTSIDE;
        }
        int before = process.area[i];
        process.area[i] = v;
        return before;
    }

    public int areaAt(int p, int i) {
        Proc process = processAt(p);
        if (process == null) {
            return UNKNOWN;
        }
        return isWithin(i, AREA - 1) ? process.area[i] : OUTSIDE;
    }

    public long taken(int p) {
        Proc process = processAt(p);
        return process == null ? UNKNOWN : process.lastType;
    }

    // ---- things

    public int queue(int p, int key, int way) {
        Proc caller = processAt(p);
        if (caller == null) {
            return UNKNOWN;
        }
        return caller.isFree() ? caller.told(openQueue(caller, key, way)) : NOT;
    }

    public int set(int p, int key, int n, int way) {
        Proc caller = processAt(p);
        if (caller == null) {
            return UNKNOWN;
        }
        return caller.isFree() ? caller.told(openSet(caller, key, n, way)) : NOT;
    }

    public int remove(int p, int of, int id) {
        Proc caller = processAt(p);
        if (caller == null) {
            return UNKNOWN;
        }
        return caller.isFree() ? caller.told(removeThing(caller, of, id)) : NOT;
    }

    public int own(int p, int of, int id, int user, int group, int mode) {
        Proc caller = processAt(p);
        if (caller == null) {
            return UNKNOWN;
        }
        return caller.isFree() ? caller.told(giveThing(caller, of, id, user, group, mode)) : NOT;
    }

    public int room(int p, int id, int bytes) {
        Proc caller = processAt(p);
        if (caller == null) {
            return UNKNOWN;
        }
        return caller.isFree() ? caller.told(changeRoom(caller, id, bytes)) : NOT;
    }

    // ---- messages

    public int send(int p, int id, long type, int n, boolean nowait) {
        Proc caller = processAt(p);
        if (caller == null) {
            return UNKNOWN;
        }
        return caller.isFree() ? caller.told(sendFrom(caller, id, type, n, nowait)) : NOT;
    }

    public int take(int p, int id, int n, long type, int way) {
        Proc caller = processAt(p);
        if (caller == null) {
            return UNKNOWN;
        }
        return caller.isFree() ? caller.told(takeTo(caller, id, n, type, way)) : NOT;
    }

    // ---- counters

    public int step(int p, int counter, int change, int way) {
        Proc caller = processAt(p);
        if (caller == null) {
            return UNKNOWN;
        }
        if (!caller.isFree()) {
            return NOT;
        }
        boolean isChange = change >= -TOP_VALUE && change <= TOP_VALUE;
        if (!isWithin(counter, COUNTERS - 1) || !isChange || !isWithin(way, TOP_STEPPING)) {
            return OUTSIDE;
        }
        return caller.steps.add(counter, change, way);
    }

    public int steps(int p, int id) {
        Proc caller = processAt(p);
        if (caller == null) {
            return UNKNOWN;
        }
        return caller.isFree() ? caller.told(stepOn(caller, id)) : NOT;
    }

    public int value(int p, int id, int counter, int v) {
        Proc caller = processAt(p);
        if (caller == null) {
            return UNKNOWN;
        }
        return caller.isFree() ? caller.told(changeValue(caller, id, counter, v)) : NOT;
    }

    // ---- what is told

    public int queueOf(int slot, int what) {
        if (!isWithin(what, 11)) {
            return OUTSIDE;
        }
        Queue queue = queueIn(slot);
        if (queue == null) {
            return NONE;
        }
        switch (what) {
            case 7:
                return queue.bytes;
            case 8:
                return queue.room;
            case 9:
                return queue.count;
            case 10:
                return waitersOn(queue, TO_SEND);
            case 11:
                return waitersOn(queue, TO_TAKE);
            default:
                return queue.fact(what);
        }
    }

    public long message(int slot, int i, int what) {
        Queue queue = queueIn(slot);
        Message message = queue == null ? null : queue.messageAt(i);
        if (message == null || what < 0) {
            return NONE;
        }
        if (what == 0) {
            return message.type;
        }
        return what == 1 ? message.size : message.byteAt(what - 2);
    }

    public int setOf(int slot, int what) {
        if (!isWithin(what, 8)) {
            return OUTSIDE;
        }
        CounterSet set = setIn(slot);
        if (set == null) {
            return NONE;
        }
        if (what == 7) {
            return set.count;
        }
        return what == 8 ? waitersOn(set, TO_STEP) : set.fact(what);
    }

    public int counter(int slot, int counter, int what) {
        if (!isWithin(what, 3)) {
            return OUTSIDE;
        }
        CounterSet set = setIn(slot);
        if (set == null || !set.hasCounter(counter)) {
            return NONE;
        }
        if (what == 0) {
            return set.values[counter];
        }
        return what == 1 ? set.lasts[counter] : stoppedAt(set, counter, what == 3);
    }

    public int undo(int p, int slot, int counter) {
        Proc process = processAt(p);
        CounterSet set = setIn(slot);
        return process == null || set == null ? 0 : set.undoOf(process.number, counter);
    }

    public int count(int what) {
        switch (what) {
            case 0:
                return came;
            case 1:
                return living();
            case 2:
                return waiting;
            case 3:
                return thingsIn(queues);
            case 4:
                return thingsIn(sets);
            case 5:
                return allBytes();
            case 6:
                return allMessages();
            default:
                return OUTSIDE;
        }
    }

    // ---- finding and counting

    private static boolean isWithin(int number, int top) {
        return number >= 0 && number <= top;
    }

    private Proc processAt(int p) {
        return isWithin(p, PROCESSES - 1) ? processes[p] : null;
    }

    private static Thing thingIn(Thing[] things, int slot) {
        if (slot < 0 || slot >= things.length) {
            return null;
        }
        Thing thing = things[slot];
        return thing != null && thing.isHere ? thing : null;
    }

    private static Thing thingById(Thing[] things, int id) {
        Thing thing = id < 0 ? null : thingIn(things, id % SLOTS);
        return thing != null && thing.id == id ? thing : null;
    }

    private static Thing thingByKey(Thing[] things, int key) {
        for (int slot = 0; slot < SLOTS && key != 0; slot++) {
            Thing thing = thingIn(things, slot);
            if (thing != null && thing.key == key) {
                return thing;
            }
        }
        return null;
    }

    private static int freeSlot(Thing[] things) {
        for (int slot = 0; slot < SLOTS; slot++) {
            if (thingIn(things, slot) == null) {
                return slot;
            }
        }
        return NONE;
    }

    private Thing thingOf(int of, int id) {
        return thingById(of == OF_QUEUES ? queues : sets, id);
    }

    private Queue queueIn(int slot) {
        return thingIn(queues, slot) instanceof Queue queue ? queue : null;
    }

    private CounterSet setIn(int slot) {
        return thingIn(sets, slot) instanceof CounterSet set ? set : null;
    }

    private Queue queueById(int id) {
        return thingById(queues, id) instanceof Queue queue ? queue : null;
    }

    private CounterSet setById(int id) {
        return thingById(sets, id) instanceof CounterSet set ? set : null;
    }

    private int living() {
        int found = 0;
        for (int p = 0; p < PROCESSES; p++) {
            Proc process = processes[p];
            if (process != null && process.lives) {
                found++;
            }
        }
        return found;
    }

    private static int thingsIn(Thing[] things) {
        int found = 0;
        for (int slot = 0; slot < SLOTS; slot++) {
            if (thingIn(things, slot) != null) {
                found++;
            }
        }
        return found;
    }

    private int allBytes() {
        int sum = 0;
        for (int slot = 0; slot < SLOTS; slot++) {
            if (queues[slot] instanceof Queue queue && queue.isHere) {
                sum += queue.bytes;
            }
        }
        return sum;
    }

    private int allMessages() {
        int sum = 0;
        for (int slot = 0; slot < SLOTS; slot++) {
            if (queues[slot] instanceof Queue queue && queue.isHere) {
                sum += queue.count;
            }
        }
        return sum;
    }

    // ---- waiting

    private void beginWait(Proc process, int waitsFor, Thing waitsOn) {
        if (waiting < PROCESSES) {
            process.waitsFor = waitsFor;
            process.waitsOn = waitsOn;
            line[waiting] = process;
            waiting++;
        }
    }

    private void goOn(Proc process, int result) {
        int kept = 0;
        for (int i = 0; i < waiting && i < PROCESSES; i++) {
            Proc waiter = line[i];
            line[i] = null;
            if (waiter != process) {
                line[kept] = waiter;
                kept++;
            }
        }
        waiting = kept;
        process.waitsFor = NOTHING;
        process.waitsOn = null;
        process.result = result;
    }

    private Proc inLine(int i) {
        return i >= 0 && i < waiting && i < PROCESSES ? line[i] : null;
    }

    private int waitersOn(Thing thing, int waitsFor) {
        int found = 0;
        for (int i = 0; i < waiting; i++) {
            Proc waiter = inLine(i);
            if (waiter != null && waiter.waitsTo(waitsFor, thing)) {
                found++;
            }
        }
        return found;
    }

    private int stoppedAt(CounterSet set, int counter, boolean forZero) {
        int found = 0;
        for (int i = 0; i < waiting; i++) {
            Proc waiter = inLine(i);
            if (waiter != null && waiter.waitsTo(TO_STEP, set) && waiter.steps.isStoppedAt(counter, forZero)) {
                found++;
            }
        }
        return found;
    }

    private void sendAway(Thing thing) {
        // From behind, so that those still to come keep their places as others leave the line.
        for (int i = PROCESSES - 1; i >= 0; i--) {
            Proc waiter = inLine(i);
            if (waiter != null && waiter.waitsOn == thing) {
                goOn(waiter, GONE);
            }
        }
    }

    // ---- making, removing and changing things

    private int openQueue(Proc caller, int key, int way) {
        if (!isWithin(key, TOP_KEY) || !isWithin(way, TOP_OPENING)) {
            return OUTSIDE;
        }
        Thing there = thingByKey(queues, key);
        if (there == null) {
            return isMade(key, way) ? makeQueue(caller, key, way) : ABSENT;
        }
        if (isOnlyNew(way)) {
            return EXISTS;
        }
        return there.grantsAll(caller, wanted(way)) ? there.id : ACCESS;
    }

    private int openSet(Proc caller, int key, int n, int way) {
        if (!isWithin(key, TOP_KEY) || !isWithin(n, COUNTERS) || !isWithin(way, TOP_OPENING)) {
            return OUTSIDE;
        }
        Thing there = thingByKey(sets, key);
        if (there == null) {
            return isMade(key, way) ? makeSet(caller, key, n, way) : ABSENT;
        }
        if (isOnlyNew(way)) {
            return EXISTS;
        }
        if (there instanceof CounterSet set && n > set.count) {
            return INVALID;
        }
        return there.grantsAll(caller, wanted(way)) ? there.id : ACCESS;
    }

    private static boolean isMade(int key, int way) {
        return key == 0 || (way & MAKE) != 0;
    }

    private static boolean isOnlyNew(int way) {
        return (way & MAKE) != 0 && (way & ONLY_NEW) != 0;
    }

    private static int wanted(int way) {
        return (way >> 6 | way >> 3 | way) & EVERYTHING;
    }

    private int makeQueue(Proc maker, int key, int way) {
        int slot = freeSlot(queues);
        if (slot < 0 || slot >= SLOTS) {
            return FULL;
        }
        // What stood in the slot before is used again, so that many makings need no more memory.
        Queue queue = queues[slot] instanceof Queue old ? old : new Queue(slot);
        queues[slot] = queue;
        queue.begin(maker, key, way & TOP_MODE);
        queue.empty();
        return queue.id;
    }

    private int makeSet(Proc maker, int key, int n, int way) {
        if (n == 0) {
            return INVALID;
        }
        int slot = freeSlot(sets);
        if (slot < 0 || slot >= SLOTS) {
            return FULL;
        }
        CounterSet set = sets[slot] instanceof CounterSet old ? old : new CounterSet(slot);
        sets[slot] = set;
        set.begin(maker, key, way & TOP_MODE);
        set.clear(n);
        return set.id;
    }

    private int removeThing(Proc caller, int of, int id) {
        if (!isWithin(of, OF_SETS)) {
            return OUTSIDE;
        }
        Thing thing = thingOf(of, id);
        if (thing == null) {
            return INVALID;
        }
        if (!thing.isRuledBy(caller)) {
            return ACCESS;
        }
        thing.isHere = false;
        sendAway(thing);
        if (of == OF_QUEUES) {
            admitSenders();
        }
        return 0;
    }

    private int giveThing(Proc caller, int of, int id, int user, int group, int mode) {
        boolean isOwner = isWithin(user, TOP_NAME) && isWithin(group, TOP_NAME);
        if (!isWithin(of, OF_SETS) || !isOwner || !isWithin(mode, TOP_MODE)) {
            return OUTSIDE;
        }
        Thing thing = thingOf(of, id);
        if (thing == null) {
            return INVALID;
        }
        if (!thing.isRuledBy(caller)) {
            return ACCESS;
        }
        thing.ownerUser = user;
        thing.ownerGroup = group;
        thing.mode = mode;
        return 0;
    }

    private int changeRoom(Proc caller, int id, int bytes) {
        if (!isWithin(bytes, TOP_ROOM)) {
            return OUTSIDE;
        }
        Queue queue = queueById(id);
        if (queue == null) {
            return INVALID;
        }
        if (!queue.isRuledBy(caller) || (bytes > queue.room && caller.user != 0)) {
            return ACCESS;
        }
        queue.room = bytes;
        admitSenders();
        return 0;
    }

    // ---- sending and taking

    private int sendFrom(Proc sender, int id, long type, int n, boolean nowait) {
        if (type < 1 || !isWithin(n, AREA)) {
            return OUTSIDE;
        }
        Queue queue = queueById(id);
        if (queue == null || n > queue.room) {
            return INVALID;
        }
        if (!queue.grantsAll(sender, WRITE)) {
            return ACCESS;
        }
        // The bytes are copied at once: the area may change while the process waits.
        sender.parcel.fill(type, n, sender.area);
        if (handToTaker(queue, sender.parcel)) {
            return 0;
        }
        if (fits(queue, n)) {
            queue.append(sender.parcel);
            return 0;
        }
        if (nowait) {
            return AGAIN;
        }
        beginWait(sender, TO_SEND, queue);
        return PENDING;
    }

    private boolean fits(Queue queue, int n) {
        return queue.hasRoomFor(n) && allBytes() + n <= ALL_BYTES;
    }

    private boolean handToTaker(Queue queue, Message message) {
        int i = 0;
        for (int looks = 0; looks < PROCESSES; looks++) {
            Proc taker = inLine(i);
            if (taker == null || !taker.waitsTo(TO_TAKE, queue) || !taker.wish.wants(message.type)) {
                i++;
            } else if (taker.wish.isTooSmallFor(message)) {
                // The next one has come up to this place of the line.
                goOn(taker, TOOBIG);
            } else {
                goOn(taker, taker.receive(message));
                return true;
            }
        }
        return false;
    }

    private void admitSenders() {
        boolean oneDid = true;
        for (int round = 0; round < PROCESSES && oneDid; round++) {
            oneDid = admitFirstSender();
        }
    }

    private boolean admitFirstSender() {
        for (int i = 0; i < PROCESSES; i++) {
            Proc sender = inLine(i);
            if (sender == null || sender.waitsFor != TO_SEND) {
                continue;
            }
            if (sender.waitsOn instanceof Queue queue && fits(queue, sender.parcel.size)) {
                goOn(sender, 0);
                if (!handToTaker(queue, sender.parcel)) {
                    queue.append(sender.parcel);
                }
                return true;
            }
        }
        return false;
    }

    private int takeTo(Proc taker, int id, int n, long type, int way) {
        if (!isWithin(n, AREA) || !isWithin(way, TOP_TAKING)) {
            return OUTSIDE;
        }
        Queue queue = queueById(id);
        if (queue == null) {
            return INVALID;
        }
        if (!queue.grantsAll(taker, READ)) {
            return ACCESS;
        }
        taker.wish.become(n, type, way);
        int i = queue.placeOfWanted(taker.wish);
        Message message = queue.messageAt(i);
        if (message == null) {
            if ((way & TAKE_NOWAIT) != 0) {
                return NOMESSAGE;
            }
            beginWait(taker, TO_TAKE, queue);
            return PENDING;
        }
        if (taker.wish.isTooSmallFor(message)) {
            return TOOBIG;
        }
        int got = taker.receive(message);
        queue.drop(i);
        admitSenders();
        return got;
    }

    // ---- stepping

    private int stepOn(Proc caller, int id) {
        Steps steps = caller.steps;
        steps.takeUp();
        CounterSet set = setById(id);
        if (set == null || steps.count == 0 || steps.highestCounter() >= set.count) {
            return INVALID;
        }
        if (!set.grantsAll(caller, steps.haveChange() ? WRITE : READ)) {
            return ACCESS;
        }
        int outcome = set.attempt(steps, caller.number);
        if (outcome == STOPS) {
            if (steps.stoppedNoWait()) {
                return AGAIN;
            }
            beginWait(caller, TO_STEP, set);
            return PENDING;
        }
        if (outcome == DONE && set.isChanged) {
            serveAll(set);
        }
        return outcome;
    }

    private int changeValue(Proc caller, int id, int counter, int v) {
        if (!isWithin(v, TOP_VALUE)) {
            return OUTSIDE;
        }
        CounterSet set = setById(id);
        if (set == null || !set.hasCounter(counter)) {
            return INVALID;
        }
        if (!set.grantsAll(caller, WRITE)) {
            return ACCESS;
        }
        if (set.put(counter, v, caller.number)) {
            serveAll(set);
        }
        return 0;
    }

    private void serveAll(CounterSet set) {
        boolean anew = true;
        // Each round but the last ends one process's waiting.
        for (int round = 0; round <= PROCESSES && anew; round++) {
            anew = serveLine(set);
        }
    }

    private boolean serveLine(CounterSet set) {
        int i = 0;
        for (int looks = 0; looks < PROCESSES; looks++) {
            Proc waiter = inLine(i);
            if (waiter == null || !waiter.waitsTo(TO_STEP, set)) {
                i++;
                continue;
            }
            int outcome = set.attempt(waiter.steps, waiter.number);
            if (outcome == STOPS) {
                i++;
                continue;
            }
            // The next one has come up to this place of the line.
            goOn(waiter, outcome);
            if (outcome == DONE && set.isChanged) {
                return true;
            }
        }
        return false;
    }

    /** A process: its area, what its latest call came to, and what it waits for. */
    private static final class Proc {
        final int number;
        final int user;
        final int group;
        final int[] area = new int[AREA];
        final Message parcel = new Message();
        final Wish wish = new Wish();
        final Steps steps = new Steps();
        boolean lives = true;
        int result = 0;
        long lastType = 0;
        int waitsFor = NOTHING;
        Thing waitsOn = null;

        Proc(int number, int user, int group) {
            this.number = number;
            this.user = user;
            this.group = group;
        }

        boolean isFree() {
            return lives && waitsFor == NOTHING;
        }

        boolean waitsTo(int purpose, Thing thing) {
            return waitsFor == purpose && waitsOn == thing;
        }

        int told(int answer) {
            result = answer;
            return answer;
        }

        int receive(Message message) {
            int got = Math.min(wish.bytes, message.size);
            for (int k = 0; k < got && k < AREA; k++) {
                area[k] = message.bytes[k];
            }
            lastType = message.type;
            return got;
        }
    }

    /** What a process that takes, or waits to take, asked for. */
    private static final class Wish {
        int bytes = 0;
        long type = 0;
        boolean isCut = false;
        boolean isOthers = false;

        void become(int n, long wantedType, int way) {
            bytes = n;
            type = wantedType;
            isCut = (way & TAKE_CUT) != 0;
            isOthers = (way & TAKE_OTHERS) != 0;
        }

        boolean wants(long offered) {
            if (type == 0) {
                return true;
            }
            // A type is at least 1, so the sum with one below 0 stays within a long.
            return type < 0 ? offered + type <= 0 : (offered == type) != isOthers;
        }

        boolean isTooSmallFor(Message message) {
            return !isCut && message.size > bytes;
        }
    }

    /** A message in a queue's row, or one that a sender holds as it waits. */
    private static final class Message {
        long type = 0;
        int size = 0;
        final int[] bytes = new int[AREA];

        void fill(long newType, int n, int[] from) {
            type = newType;
            size = n;
            for (int k = 0; k < n && k < AREA && k < from.length; k++) {
                bytes[k] = from[k];
            }
        }

        int byteAt(int k) {
            return k >= 0 && k < size && k < AREA ? bytes[k] : NONE;
        }
    }

    /** The steps that a process has given for its next call of steps(), or waits with. */
    private static final class Steps {
        final int[] counters = new int[STEPS];
        final int[] changes = new int[STEPS];
        final int[] ways = new int[STEPS];
        int given = 0;
        int count = 0;
        int stopped = 0;

        int add(int counter, int change, int way) {
            if (given >= STEPS) {
                return FULL;
            }
            counters[given] = counter;
            changes[given] = change;
            ways[given] = way;
            given++;
            return given;
        }

        // The rows stay as they are: nothing is given while the process waits with them.
        void takeUp() {
            count = given;
            given = 0;
        }

        int highestCounter() {
            int highest = 0;
            for (int i = 0; i < count && i < STEPS; i++) {
                highest = Math.max(highest, counters[i]);
            }
            return highest;
        }

        boolean haveChange() {
            for (int i = 0; i < count && i < STEPS; i++) {
                if (changes[i] != 0) {
                    return true;
                }
            }
            return false;
        }

        boolean isUndone(int i) {
            return isWithin(i, STEPS - 1) && (ways[i] & STEP_UNDO) != 0;
        }

        boolean stoppedNoWait() {
            return isWithin(stopped, STEPS - 1) && (ways[stopped] & STEP_NOWAIT) != 0;
        }

        boolean isStoppedAt(int counter, boolean forZero) {
            return isWithin(stopped, STEPS - 1) && counters[stopped] == counter && (changes[stopped] == 0) == forZero;
        }
    }

    /** What queues and sets have in common: a slot, a key, and whom they belong to. */
    private abstract static class Thing {
        final int slot;
        int made = 0;
        boolean isHere = false;
        int id = 0;
        int key = 0;
        int ownerUser = 0;
        int ownerGroup = 0;
        int makerUser = 0;
        int makerGroup = 0;
        int mode = 0;

        Thing(int slot) {
            this.slot = slot;
        }

        final void begin(Proc maker, int newKey, int newMode) {
            id = slot + SLOTS * made;
            made++;
            isHere = true;
            key = newKey;
            ownerUser = maker.user;
            ownerGroup = maker.group;
            makerUser = maker.user;
            makerGroup = maker.group;
            mode = newMode;
        }

        final boolean isRuledBy(Proc process) {
            return process.user == 0 || process.user == ownerUser || process.user == makerUser;
        }

        final boolean grantsAll(Proc process, int bits) {
            return (bits & ~mayOf(process)) == 0;
        }

        final int mayOf(Proc process) {
            if (process.user == 0) {
                return EVERYTHING;
            }
            if (process.user == ownerUser || process.user == makerUser) {
                return mode >> 6 & EVERYTHING;
            }
            if (process.group == ownerGroup || process.group == makerGroup) {
                return mode >> 3 & EVERYTHING;
            }
            return mode & EVERYTHING;
        }

        final int fact(int what) {
            switch (what) {
                case 0:
                    return id;
                case 1:
                    return key;
                case 2:
                    return ownerUser;
                case 3:
                    return ownerGroup;
                case 4:
                    return makerUser;
                case 5:
                    return makerGroup;
                case 6:
                    return mode;
                default:
                    return OUTSIDE;
            }
        }
    }

    /** A queue: its messages in order, and how many bytes it may have. */
    private static final class Queue extends Thing {
        final Message[] row = new Message[MESSAGES];
        int count = 0;
        int bytes = 0;
        int room = FIRST_ROOM;

        Queue(int slot) {
            super(slot);
        }

        void empty() {
            count = 0;
            bytes = 0;
            room = FIRST_ROOM;
        }

        boolean hasRoomFor(int n) {
            return bytes + n <= room && count < MESSAGES;
        }

        Message messageAt(int i) {
            return i >= 0 && i < count && i < MESSAGES ? row[i] : null;
        }

        void append(Message message) {
            if (count >= MESSAGES) {
                return;
            }
            Message place = row[count] == null ? new Message() : row[count];
            place.fill(message.type, message.size, message.bytes);
            row[count] = place;
            count++;
            bytes += message.size;
        }

        void drop(int i) {
            Message gone = messageAt(i);
            if (gone == null) {
                return;
            }
            int last = Math.min(count, MESSAGES) - 1;
            for (int k = i; k < last; k++) {
                row[k] = row[k + 1];
            }
            // The message's object is kept behind the others, to be filled again.
            row[last] = gone;
            count = last;
            bytes -= gone.size;
        }

        int placeOfWanted(Wish wish) {
            int place = NONE;
            long least = 0;
            for (int i = 0; i < count; i++) {
                Message message = messageAt(i);
                boolean isWanted = message != null && wish.wants(message.type);
                if (isWanted && (place == NONE || (wish.type < 0 && message.type < least))) {
                    place = i;
                    least = message.type;
                }
            }
            return place;
        }
    }

    /** A set of counters, and what each process's end will undo of them. */
    private static final class CounterSet extends Thing {
        int count = 0;
        final int[] values = new int[COUNTERS];
        final int[] lasts = new int[COUNTERS];
        final int[] undoes = new int[PROCESSES * COUNTERS];
        // Steps are tried on copies, so that nothing has to be taken back where one stops.
        final int[] triedValues = new int[COUNTERS];
        final int[] triedUndoes = new int[COUNTERS];
        boolean isChanged = false;

        CounterSet(int slot) {
            super(slot);
        }

        void clear(int n) {
            count = n;
            for (int c = 0; c < COUNTERS; c++) {
                values[c] = 0;
                lasts[c] = NONE;
            }
            for (int i = 0; i < PROCESSES * COUNTERS; i++) {
                undoes[i] = 0;
            }
        }

        boolean hasCounter(int counter) {
            return counter >= 0 && counter < count && counter < COUNTERS;
        }

        int undoOf(int p, int counter) {
            return hasCounter(counter) && isWithin(p, PROCESSES - 1) ? undoes[p * COUNTERS + counter] : 0;
        }

        void putUndo(int p, int counter, int undo) {
            if (counter >= 0 && counter < COUNTERS && p >= 0 && p < PROCESSES) {
                undoes[p * COUNTERS + counter] = undo;
            }
        }

        boolean put(int counter, int v, int p) {
            if (!hasCounter(counter)) {
                return false;
            }
            boolean isAnother = values[counter] != v;
            values[counter] = v;
            lasts[counter] = p;
            for (int each = 0; each < PROCESSES; each++) {
                putUndo(each, counter, 0);
            }
            return isAnother;
        }

        boolean takeBack(int p) {
            boolean isAnother = false;
            for (int c = 0; c < count && c < COUNTERS; c++) {
                int undo = undoOf(p, c);
                if (undo != 0) {
                    int v = Math.max(0, Math.min(TOP_VALUE, values[c] + undo));
                    isAnother = isAnother || v != values[c];
                    values[c] = v;
                    lasts[c] = p;
                    putUndo(p, c, 0);
                }
            }
            return isAnother;
        }

        int attempt(Steps steps, int p) {
            for (int c = 0; c < COUNTERS; c++) {
                triedValues[c] = values[c];
                triedUndoes[c] = undoOf(p, c);
            }
            for (int i = 0; i < steps.count && i < STEPS; i++) {
                int outcome = attemptOne(steps.counters[i], steps.changes[i], steps.isUndone(i));
                if (outcome == STOPS) {
                    steps.stopped = i;
                }
                if (outcome != DONE) {
                    return outcome;
                }
            }
            keep(steps, p);
            return DONE;
        }

        private int attemptOne(int counter, int change, boolean isUndone) {
            if (!hasCounter(counter)) {
                return RANGE;
            }
            int v = triedValues[counter] + change;
            if (v < 0 || (change == 0 && v != 0)) {
                return STOPS;
            }
            if (v > TOP_VALUE) {
                return RANGE;
            }
            if (isUndone) {
                int undo = triedUndoes[counter] - change;
                if (undo < -TOP_VALUE || undo > TOP_VALUE) {
                    return RANGE;
                }
                triedUndoes[counter] = undo;
            }
            triedValues[counter] = v;
            return DONE;
        }

        private void keep(Steps steps, int p) {
            isChanged = false;
            for (int c = 0; c < count && c < COUNTERS; c++) {
                isChanged = isChanged || values[c] != triedValues[c];
                values[c] = triedValues[c];
                putUndo(p, c, triedUndoes[c]);
            }
            for (int i = 0; i < steps.count && i < STEPS; i++) {
                int c = steps.counters[i];
                if (hasCounter(c)) {
                    lasts[c] = p;
                }
            }
        }
    }
}

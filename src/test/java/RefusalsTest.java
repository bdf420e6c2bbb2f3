/**
 * The paragraph behind the Terms: "What a call of a PROCESS tells is its RESULT. Refused, and nothing else changes, the
 * first of these that fits: UNKNOWN .., NOT .., OUTSIDE .., INVALID .., ACCESS, what is told with the call in its order."
 * Each refused call is made on an object of its own, and breaks all that comes behind, too, where that can be.
 */
public final class RefusalsTest extends Check {
    /** What the processes of the object are: 3 and 5 to 7 WAIT, 4 has ended, 8 may nothing, and 9 is none. */
    private static final int ROOT = 0, MAKER = 1, OTHER = 2, TAKER = 3, ENDED = 4, SENDER = 5, STEPPER = 6, FULL_OF_STEPS = 7, STRANGER = 8;
    private static final int[] UNKNOWNS = {9, 15, 16, -1, Integer.MIN_VALUE, Integer.MAX_VALUE};
    private static final int[] NOTS = {TAKER, ENDED, SENDER, STEPPER};
    private static final int NO_ID = 9;

    private interface Call {
        long on(QueuesAndGates x);
    }

    private interface CallOf {
        long on(QueuesAndGates x, int p);
    }

    public static void main(String[] args) {
        unknown();
        not();
        unknownAndNotOfProcesses();
        things();
        set();
        ruled();
        room();
        send();
        take();
        step();
        steps();
        value();
        resultsOfWhatIsDone();
        end();
    }

    private static QueuesAndGates built() {
        QueuesAndGates x = new QueuesAndGates();
        int[] users = {0, 1, 2, 1, 1, 1, 1, 1, 3};
        for (int p = 0; p < users.length; p++) {
            x.process(users[p], users[p]);
            x.area(p, 0, 10 + p);
            x.area(p, 1, 20 + p);
        }
        x.queue(MAKER, 1, 512 + 0700);
        x.room(MAKER, 0, 10);
        x.send(MAKER, 0, 5, 6, true);
        x.send(MAKER, 0, 6, 4, true);
        x.send(SENDER, 0, 9, 1, false);
        x.queue(MAKER, 2, 512 + 0700);
        x.take(TAKER, 1, 1, 77, 0);
        x.set(MAKER, 1, 2, 512 + 0700);
        stepped(x, MAKER, 0, 0, 5, 2);
        stepped(x, STEPPER, 0, 1, -1, 0);
        for (int i = 0; i < 8; i++) {
            x.step(FULL_OF_STEPS, 0, 1, 0);
        }
        stepped(x, ENDED, 0, 0, 1, 0);
        x.exit(ENDED);
        x.queue(OTHER, 99, 0);
        return x;
    }

    /** All that is told, but for the RESULT of one process. */
    private static String told(QueuesAndGates x, int but) {
        StringBuilder all = new StringBuilder();
        for (int what = 0; what <= 6; what++) {
            all.append(x.count(what)).append(' ');
        }
        for (int p = 0; p <= STRANGER; p++) {
            all.append(p == but ? 0 : x.result(p)).append(' ').append(x.taken(p)).append(' ');
            all.append(x.areaAt(p, 0)).append(' ').append(x.areaAt(p, 1)).append(' ');
            all.append(x.undo(p, 0, 0)).append(' ').append(x.undo(p, 0, 1)).append(' ');
        }
        for (int what = 0; what <= 11; what++) {
            all.append(x.queueOf(0, what)).append(' ').append(x.queueOf(1, what)).append(' ');
        }
        for (int i = 0; i < 3; i++) {
            for (int what = 0; what < 4; what++) {
                all.append(x.message(0, i, what)).append(' ').append(x.message(1, i, what)).append(' ');
            }
        }
        for (int what = 0; what <= 8; what++) {
            all.append(x.setOf(0, what)).append(' ');
        }
        for (int what = 0; what <= 3; what++) {
            all.append(x.counter(0, 0, what)).append(' ').append(x.counter(0, 1, what)).append(' ');
        }
        return all.toString();
    }

    private static void nothingElseChanged(String name, QueuesAndGates x, int but) {
        String now = told(x, but);
        due(name + ": nothing else changes, but it is now " + now, now.equals(told(built(), but)) ? 1 : 0, 1);
    }

    /** One that is refused, and has RESULT. */
    private static void refused(String name, int code, int p, Call call) {
        QueuesAndGates x = built();
        due(name, call.on(x), code);
        due(name + ": RESULT", x.result(p), code);
        nothingElseChanged(name, x, p);
    }

    /** One that is refused, and no RESULT comes of it. */
    private static void refusedAlone(String name, int code, Call call) {
        QueuesAndGates x = built();
        due(name, call.on(x), code);
        nothingElseChanged(name, x, -1);
    }

    /** All calls of a process that WAITS or has ended may not, each with numbers that would be refused, too, and without. */
    private static CallOf[] callsThatNeedAFreeOne() {
        return new CallOf[] {
            (x, p) -> x.queue(p, 1, 0), (x, p) -> x.queue(p, -1, 0), (x, p) -> x.queue(p, 9, 0), (x, p) -> x.queue(p, 0, 511),
            (x, p) -> x.set(p, 1, 1, 0), (x, p) -> x.set(p, -1, 1, 0), (x, p) -> x.set(p, 9, 0, 0), (x, p) -> x.set(p, 0, 1, 511),
            (x, p) -> x.remove(p, 0, 0), (x, p) -> x.remove(p, 1, 0), (x, p) -> x.remove(p, 2, 0), (x, p) -> x.remove(p, 0, NO_ID),
            (x, p) -> x.own(p, 0, 0, 5, 5, 5), (x, p) -> x.own(p, 1, 0, 5, 5, 5), (x, p) -> x.own(p, 0, 0, 100, 5, 5),
            (x, p) -> x.room(p, 0, 9), (x, p) -> x.room(p, 0, 1001), (x, p) -> x.room(p, NO_ID, 9),
            (x, p) -> x.send(p, 1, 77, 1, true), (x, p) -> x.send(p, 0, 0, 1, true), (x, p) -> x.send(p, 0, 1, 1, false),
            (x, p) -> x.take(p, 0, 64, 0, 0), (x, p) -> x.take(p, 0, 65, 0, 0), (x, p) -> x.take(p, 0, 64, 8, 0),
            (x, p) -> x.step(p, 0, 1, 0), (x, p) -> x.step(p, 8, 1, 0),
            (x, p) -> x.steps(p, 0), (x, p) -> x.steps(p, NO_ID),
            (x, p) -> x.value(p, 0, 1, 1), (x, p) -> x.value(p, 0, 1, -1), (x, p) -> x.value(p, 0, 2, 1),
        };
    }

    // "UNKNOWN (no such PROCESS; it has no RESULT then)": ahead of all others
    private static void unknown() {
        CallOf[] calls = callsThatNeedAFreeOne();
        for (int i = 0; i < calls.length; i++) {
            CallOf call = calls[i];
            for (int p : UNKNOWNS) {
                refusedAlone("call " + i + " of " + p, UNKNOWN, x -> call.on(x, p));
            }
        }
    }

    // "NOT (it does not LIVE, or it WAITS; RESULT stays then)": ahead of all but UNKNOWN
    private static void not() {
        CallOf[] calls = callsThatNeedAFreeOne();
        for (int i = 0; i < calls.length; i++) {
            CallOf call = calls[i];
            for (int p : NOTS) {
                refusedAlone("call " + i + " of " + p, NOT, x -> call.on(x, p));
            }
        }
    }

    // Promises 3 to 8: those that one that WAITS or has ended may be asked, too
    private static void unknownAndNotOfProcesses() {
        CallOf[] calls = {
            (x, p) -> x.exit(p), (x, p) -> x.signal(p), (x, p) -> x.result(p), (x, p) -> x.area(p, 0, 1), (x, p) -> x.area(p, 64, 256),
            (x, p) -> x.areaAt(p, 0), (x, p) -> x.areaAt(p, 64), (x, p) -> x.taken(p)};
        for (int i = 0; i < calls.length; i++) {
            CallOf call = calls[i];
            for (int p : UNKNOWNS) {
                refusedAlone("call " + i + " of " + p, UNKNOWN, x -> call.on(x, p));
            }
        }
        refusedAlone("exit", NOT, x -> x.exit(ENDED));
        refusedAlone("signal", NOT, x -> x.signal(ENDED));
        refusedAlone("signal", NOT, x -> x.signal(MAKER));
        refusedAlone("process", OUTSIDE, x -> x.process(100, 0));
        refusedAlone("process", OUTSIDE, x -> x.process(0, 100));
        for (int p = 0; p <= STRANGER; p++) {
            int each = p;
            refusedAlone("area", OUTSIDE, x -> x.area(each, 64, 0));
            refusedAlone("area", OUTSIDE, x -> x.area(each, 0, 256));
            refusedAlone("areaAt", OUTSIDE, x -> x.areaAt(each, 64));
            refusedAlone("areaAt", 10 + p, x -> x.areaAt(each, 0));
            refusedAlone("area", 10 + p, x -> x.area(each, 0, 10 + each));
        }
    }

    // Promise 9
    private static void things() {
        refused("key", OUTSIDE, OTHER, x -> x.queue(OTHER, -1, 512));
        refused("key", OUTSIDE, OTHER, x -> x.queue(OTHER, 1000001, 512));
        refused("way", OUTSIDE, OTHER, x -> x.queue(OTHER, 1, 2048));
        refused("way", OUTSIDE, OTHER, x -> x.queue(OTHER, 0, -1));
        refused("none", ABSENT, OTHER, x -> x.queue(OTHER, 3, 1024 + 511));
        refused("there is one", EXISTS, OTHER, x -> x.queue(OTHER, 1, 1536 + 7));
        refused("not all", ACCESS, OTHER, x -> x.queue(OTHER, 1, 512 + 1));
        refused("not all", ACCESS, OTHER, x -> x.queue(OTHER, 2, 4));
    }

    // Promise 10
    private static void set() {
        refused("key", OUTSIDE, OTHER, x -> x.set(OTHER, -1, 1, 512));
        refused("n", OUTSIDE, OTHER, x -> x.set(OTHER, 1, 9, 1536));
        refused("n, ahead of ABSENT", OUTSIDE, OTHER, x -> x.set(OTHER, 2, -1, 0));
        refused("way", OUTSIDE, OTHER, x -> x.set(OTHER, 1, 1, 2048));
        refused("none, ahead of INVALID", ABSENT, OTHER, x -> x.set(OTHER, 2, 0, 0));
        refused("there is one, ahead of INVALID", EXISTS, OTHER, x -> x.set(OTHER, 1, 3, 1536 + 7));
        refused("too many, ahead of ACCESS", INVALID, OTHER, x -> x.set(OTHER, 1, 3, 7));
        refused("none to be made", INVALID, OTHER, x -> x.set(OTHER, 2, 0, 512));
        refused("none to be made", INVALID, OTHER, x -> x.set(OTHER, 0, 0, 0));
        refused("not all", ACCESS, OTHER, x -> x.set(OTHER, 1, 2, 1));
    }

    // Promises 11 and 12
    private static void ruled() {
        refused("of, ahead of INVALID", OUTSIDE, OTHER, x -> x.remove(OTHER, 2, NO_ID));
        refused("of, ahead of ACCESS", OUTSIDE, OTHER, x -> x.remove(OTHER, -1, 0));
        refused("id", INVALID, OTHER, x -> x.remove(OTHER, 0, NO_ID));
        refused("id", INVALID, OTHER, x -> x.remove(OTHER, 1, 12));
        refused("queue", ACCESS, OTHER, x -> x.remove(OTHER, 0, 0));
        refused("set", ACCESS, OTHER, x -> x.remove(OTHER, 1, 0));
        refused("of, ahead of INVALID", OUTSIDE, OTHER, x -> x.own(OTHER, 2, NO_ID, 1, 1, 1));
        refused("user, ahead of INVALID", OUTSIDE, OTHER, x -> x.own(OTHER, 0, NO_ID, 100, 1, 1));
        refused("group, ahead of INVALID", OUTSIDE, OTHER, x -> x.own(OTHER, 0, NO_ID, 1, 100, 1));
        refused("mode, ahead of INVALID", OUTSIDE, OTHER, x -> x.own(OTHER, 0, NO_ID, 1, 1, 512));
        refused("mode, ahead of ACCESS", OUTSIDE, OTHER, x -> x.own(OTHER, 1, 0, 1, 1, -1));
        refused("id", INVALID, OTHER, x -> x.own(OTHER, 0, NO_ID, 1, 1, 1));
        refused("queue", ACCESS, OTHER, x -> x.own(OTHER, 0, 0, 2, 2, 511));
        refused("set", ACCESS, OTHER, x -> x.own(OTHER, 1, 0, 2, 2, 511));
    }

    // Promise 13
    private static void room() {
        refused("bytes, ahead of INVALID", OUTSIDE, OTHER, x -> x.room(OTHER, NO_ID, 1001));
        refused("bytes, ahead of ACCESS", OUTSIDE, OTHER, x -> x.room(OTHER, 0, -1));
        refused("id", INVALID, OTHER, x -> x.room(OTHER, NO_ID, 1000));
        refused("does not rule", ACCESS, OTHER, x -> x.room(OTHER, 0, 10));
        refused("more than now", ACCESS, MAKER, x -> x.room(MAKER, 0, 11));
    }

    // Promise 14
    private static void send() {
        refused("type, ahead of INVALID", OUTSIDE, OTHER, x -> x.send(OTHER, NO_ID, 0, 1, false));
        refused("n, ahead of INVALID", OUTSIDE, OTHER, x -> x.send(OTHER, NO_ID, 1, 65, false));
        refused("n, ahead of INVALID", OUTSIDE, OTHER, x -> x.send(OTHER, 0, 1, -1, false));
        refused("id", INVALID, OTHER, x -> x.send(OTHER, NO_ID, 1, 1, false));
        refused("above room, ahead of ACCESS", INVALID, OTHER, x -> x.send(OTHER, 0, 1, 11, false));
        refused("ahead of PENDING", ACCESS, OTHER, x -> x.send(OTHER, 0, 1, 10, false));
        refused("ahead of AGAIN", ACCESS, OTHER, x -> x.send(OTHER, 0, 1, 10, true));
        refused("though one waits for it", ACCESS, OTHER, x -> x.send(OTHER, 1, 77, 1, true));
        refused("does not fit", AGAIN, MAKER, x -> x.send(MAKER, 0, 1, 1, true));
    }

    // Promise 15
    private static void take() {
        refused("n, ahead of INVALID", OUTSIDE, OTHER, x -> x.take(OTHER, NO_ID, 65, 0, 0));
        refused("way, ahead of INVALID", OUTSIDE, OTHER, x -> x.take(OTHER, NO_ID, 1, 0, 8));
        refused("way, ahead of ACCESS", OUTSIDE, OTHER, x -> x.take(OTHER, 0, 1, 0, -1));
        refused("id", INVALID, OTHER, x -> x.take(OTHER, NO_ID, 1, 0, 0));
        refused("ahead of TOOBIG", ACCESS, OTHER, x -> x.take(OTHER, 0, 1, 0, 0));
        refused("ahead of NOMESSAGE", ACCESS, OTHER, x -> x.take(OTHER, 0, 1, 7, 1));
        refused("ahead of PENDING", ACCESS, OTHER, x -> x.take(OTHER, 0, 1, 7, 0));
        refused("ahead of what it would have", ACCESS, OTHER, x -> x.take(OTHER, 0, 64, 0, 0));
        refused("too big", TOOBIG, MAKER, x -> x.take(MAKER, 0, 5, 0, 0));
        refused("too big, by nowait", TOOBIG, MAKER, x -> x.take(MAKER, 0, 3, 6, 1));
        refused("none of 7", NOMESSAGE, MAKER, x -> x.take(MAKER, 0, 5, 7, 1));
        refused("none of 7, cut", NOMESSAGE, MAKER, x -> x.take(MAKER, 0, 0, 7, 3));
    }

    // Promise 16: no RESULT
    private static void step() {
        refusedAlone("counter, ahead of FULL", OUTSIDE, x -> x.step(FULL_OF_STEPS, 8, 1, 0));
        refusedAlone("change, ahead of FULL", OUTSIDE, x -> x.step(FULL_OF_STEPS, 0, 32768, 0));
        refusedAlone("way, ahead of FULL", OUTSIDE, x -> x.step(FULL_OF_STEPS, 0, 1, 4));
        refusedAlone("full", FULL, x -> x.step(FULL_OF_STEPS, 0, 1, 0));
        refusedAlone("counter", OUTSIDE, x -> x.step(OTHER, -1, 1, 0));
        refusedAlone("as told", 1, x -> x.step(OTHER, 0, 1, 0));
    }

    // Promise 17
    private static void steps() {
        refused("no steps", INVALID, OTHER, x -> x.steps(OTHER, 0));
        refused("id", INVALID, OTHER, x -> stepped(x, OTHER, NO_ID, 0, 1, 0));
        refused("no counter, ahead of ACCESS", INVALID, OTHER, x -> stepped(x, OTHER, 0, 2, 1, 0));
        refused("ahead of RANGE", ACCESS, OTHER, x -> stepped(x, OTHER, 0, 0, 32767, 0));
        refused("ahead of AGAIN", ACCESS, OTHER, x -> stepped(x, OTHER, 0, 1, -1, 1));
        refused("ahead of PENDING", ACCESS, OTHER, x -> stepped(x, OTHER, 0, 1, -1, 0));
        refused("to read", ACCESS, OTHER, x -> stepped(x, OTHER, 0, 1, 0, 0));
        refused("beyond", RANGE, MAKER, x -> stepped(x, MAKER, 0, 0, 32767, 3));
        refused("stops", AGAIN, MAKER, x -> stepped(x, MAKER, 0, 0, -7, 3));
        refused("stops", AGAIN, MAKER, x -> stepped(x, MAKER, 0, 0, 0, 1));
    }

    // Promise 18
    private static void value() {
        refused("v, ahead of INVALID", OUTSIDE, OTHER, x -> x.value(OTHER, NO_ID, 9, -1));
        refused("v, ahead of ACCESS", OUTSIDE, OTHER, x -> x.value(OTHER, 0, 0, 32768));
        refused("id", INVALID, OTHER, x -> x.value(OTHER, NO_ID, 0, 1));
        refused("no counter, ahead of ACCESS", INVALID, OTHER, x -> x.value(OTHER, 0, 2, 1));
        refused("no counter, ahead of ACCESS", INVALID, OTHER, x -> x.value(OTHER, 0, -1, 1));
        refused("does not write", ACCESS, OTHER, x -> x.value(OTHER, 0, 1, 1));
    }

    // "What a call of a PROCESS tells is its RESULT": what is done, as well
    private static void resultsOfWhatIsDone() {
        CallOf[] calls = {
            (x, p) -> x.queue(p, 2, 0), (x, p) -> x.queue(p, 3, 512), (x, p) -> x.set(p, 1, 2, 0), (x, p) -> x.set(p, 2, 2, 512),
            (x, p) -> x.remove(p, 0, 0), (x, p) -> x.remove(p, 1, 0), (x, p) -> x.own(p, 0, 1, 1, 1, 1), (x, p) -> x.room(p, 0, 9),
            (x, p) -> x.send(p, 1, 1, 1, true), (x, p) -> x.send(p, 1, 77, 1, true), (x, p) -> x.take(p, 0, 9, 6, 0),
            (x, p) -> x.take(p, 0, 9, 7, 0), (x, p) -> x.send(p, 0, 9, 9, false), (x, p) -> stepped(x, p, 0, 0, 1, 0),
            (x, p) -> stepped(x, p, 0, 0, -9, 0), (x, p) -> x.value(p, 0, 1, 1)};
        int[] want = {1, 2, 0, 1, 0, 0, 0, 0, 0, 0, 4, PENDING, PENDING, 0, PENDING, 0};
        for (int i = 0; i < calls.length; i++) {
            QueuesAndGates x = built();
            due("refused before", x.queue(MAKER, 9, 0), ABSENT);
            due("call " + i, calls[i].on(x, MAKER), want[i]);
            due("RESULT of call " + i, x.result(MAKER), want[i]);
            due("another's", x.result(OTHER), ABSENT);
            due("user 0's", x.result(ROOT), 0);
        }
    }
}

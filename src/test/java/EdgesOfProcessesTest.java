/** The edges that Terms 1 and 4 (processes) and promises 1 to 8 name: a method for each sentence, on an object of its own. */
public final class EdgesOfProcessesTest extends Check {
    private static final int[] NO_PROCESS = {-1, 3, 16, Integer.MIN_VALUE, Integer.MAX_VALUE};

    public static void main(String[] args) {
        sixteenAtMost();
        userBounds();
        groupBounds();
        areaAtFirst();
        resultOfTheLatestCall();
        noProcesses();
        noThings();
        processHasNoResult();
        processOutsideAheadOfFull();
        exitUnknown();
        exitNot();
        exitMayWaitToTake();
        exitMayWaitToSend();
        exitMayWaitToStep();
        exitIsNotServed();
        exitHasNoResult();
        exitedDoesNotLive();
        undoIsHeldAbove0();
        undoIsHeldBelow32768();
        undoOf0IsNone();
        undoIsLastThoughTheValueStays();
        undoesOfTheSetAre0();
        undoServesIfAValueChanged();
        undoServesBehindAllCounters();
        undoServesNoneElse();
        signalledTaker();
        signalledSender();
        signalledStepper();
        signalUnknown();
        signalNot();
        resultNoneYet();
        resultUnknown();
        areaIndex();
        areaByte();
        areaUnknown();
        areaHasNoResult();
        areaAtIndex();
        areaAtByte();
        areaAtUnknown();
        takenNone();
        takenUnknown();
        end();
    }

    // Terms 1: "PROCESSES are numbered from 0 as they come, 16 at most"; promise 2: "FULL"
    private static void sixteenAtMost() {
        QueuesAndGates x = new QueuesAndGates();
        for (int p = 0; p < 16; p++) {
            due("the number", x.process(1, 1), p);
        }
        due("one too many", x.process(1, 1), FULL);
        due("16 are there", x.count(0), 16);
        due("exit of the first", x.exit(0), 1);
        due("exit of the last", x.exit(15), 1);
        due("an ended one keeps its number", x.process(1, 1), FULL);
        due("no 17th", x.result(16), UNKNOWN);
    }

    // Terms 1: "each has a USER .. (0 .. 99)"; promise 2: "OUTSIDE: USER"
    private static void userBounds() {
        QueuesAndGates x = new QueuesAndGates();
        due("too small", x.process(-1, 5), OUTSIDE);
        due("too large", x.process(100, 5), OUTSIDE);
        due("least int", x.process(Integer.MIN_VALUE, 5), OUTSIDE);
        due("greatest int", x.process(Integer.MAX_VALUE, 5), OUTSIDE);
        due("none came", x.count(0), 0);
        due("least", x.process(0, 5), 0);
        due("greatest", x.process(99, 5), 1);
        due("queue", x.queue(1, 0, 0), 0);
        due("its user", x.queueOf(0, 4), 99);
    }

    // Terms 1: "each has .. a GROUP (0 .. 99)"; promise 2: "OUTSIDE: .. GROUP"
    private static void groupBounds() {
        QueuesAndGates x = new QueuesAndGates();
        due("too small", x.process(5, -1), OUTSIDE);
        due("too large", x.process(5, 100), OUTSIDE);
        due("least int", x.process(5, Integer.MIN_VALUE), OUTSIDE);
        due("greatest int", x.process(5, Integer.MAX_VALUE), OUTSIDE);
        due("none came", x.count(0), 0);
        due("least", x.process(5, 0), 0);
        due("greatest", x.process(5, 99), 1);
        due("queue", x.queue(1, 0, 0), 0);
        due("its group", x.queueOf(0, 5), 99);
    }

    // Terms 1: "an AREA of 64 bytes (0 at first)"
    private static void areaAtFirst() {
        QueuesAndGates x = withProcesses(2);
        for (int i = 0; i < 64; i++) {
            due("byte " + i, x.areaAt(1, i), 0);
        }
        due("no byte 64", x.areaAt(1, 64), OUTSIDE);
        due("a byte of one", x.area(0, 0, 9), 0);
        due("is none of the other", x.areaAt(1, 0), 0);
    }

    // Terms 1: "RESULT is what its latest call that has one came to; PENDING as long as it WAITS"
    private static void resultOfTheLatestCall() {
        QueuesAndGates x = withProcesses(3);
        due("queue", x.queue(1, 0, 0600), 0);
        due("queue", x.queue(1, 0, 0600), 1);
        due("an id", x.result(1), 1);
        due("a refusal", x.queue(1, 7, 0), ABSENT);
        due("a refusal", x.result(1), ABSENT);
        due("waits", x.take(1, 0, 1, 0, 0), PENDING);
        due("as long as it waits", x.result(1), PENDING);
        due("sent", x.send(0, 0, 1, 1, true), 0);
        due("no longer", x.result(1), 1);
        due("of the others", x.result(2), 0);
    }

    // Promise 1: "No PROCESSES"
    private static void noProcesses() {
        QueuesAndGates x = new QueuesAndGates();
        due("processes", x.count(0), 0);
        due("that live", x.count(1), 0);
        due("that wait", x.count(2), 0);
        for (int p = 0; p < 16; p++) {
            due("result", x.result(p), UNKNOWN);
            due("taken", x.taken(p), UNKNOWN);
            due("exit", x.exit(p), UNKNOWN);
        }
        due("the first is 0", x.process(7, 7), 0);
    }

    // Promise 1: "no THINGS"
    private static void noThings() {
        QueuesAndGates x = new QueuesAndGates();
        for (int slot = 0; slot < 12; slot++) {
            due("queue", x.queueOf(slot, 0), NONE);
            due("set", x.setOf(slot, 0), NONE);
            due("message", x.message(slot, 0, 0), -1);
            due("counter", x.counter(slot, 0, 0), NONE);
            due("undo", x.undo(0, slot, 0), 0);
        }
        for (int what = 3; what <= 6; what++) {
            due("count(" + what + ")", x.count(what), 0);
        }
    }

    // Promise 2: "(No RESULT comes of it.)"
    private static void processHasNoResult() {
        QueuesAndGates x = withProcesses(4);
        due("not its number", x.result(3), 0);
        due("refused", x.process(100, 0), OUTSIDE);
        due("not of another", x.result(3), 0);
    }

    // Promise 2: "OUTSIDE: USER, GROUP; FULL."
    private static void processOutsideAheadOfFull() {
        QueuesAndGates x = withProcesses(16);
        due("user", x.process(100, 0), OUTSIDE);
        due("group", x.process(0, -1), OUTSIDE);
        due("as told", x.process(0, 0), FULL);
    }

    // Promise 3: "UNKNOWN"
    private static void exitUnknown() {
        QueuesAndGates x = withProcesses(3);
        for (int p : NO_PROCESS) {
            due("exit(" + p + ")", x.exit(p), UNKNOWN);
        }
        due("all live", x.count(1), 3);
        due("the last one", x.exit(2), 1);
    }

    // Promise 3: "NOT: it does not LIVE."
    private static void exitNot() {
        QueuesAndGates x = withProcesses(3);
        due("set", x.set(0, 1, 1, 1023), 0);
        due("steps", stepped(x, 1, 0, 0, 4, 2), 0);
        due("exit", x.exit(1), 1);
        due("value", x.value(0, 0, 0, 9), 0);
        due("again", x.exit(1), NOT);
        due("nothing undone again", x.counter(0, 0, 0), 9);
        due("RESULT stays", x.result(1), 0);
        due("living", x.count(1), 2);
    }

    // Promise 3: "(It may WAIT.)"; Terms 4: "if it WAITS, it does so no more, with RESULT CUTOFF"
    private static void exitMayWaitToTake() {
        QueuesAndGates x = withProcesses(3);
        due("queue", x.queue(0, 1, 1023), 0);
        due("waits", x.take(1, 0, 9, 0, 0), PENDING);
        due("exit", x.exit(1), 1);
        due("result", x.result(1), CUTOFF);
        due("none waits", x.count(2), 0);
        due("none waits to take", x.queueOf(0, 11), 0);
        due("send", x.send(2, 0, 5, 1, true), 0);
        due("into the row", x.queueOf(0, 9), 1);
        due("it took none", x.taken(1), 0);
    }

    private static void exitMayWaitToSend() {
        QueuesAndGates x = withProcesses(3);
        due("queue", x.queue(0, 1, 1023), 0);
        due("room", x.room(0, 0, 3), 0);
        due("send", x.send(2, 0, 5, 3, true), 0);
        due("waits", x.send(1, 0, 6, 2, false), PENDING);
        due("exit", x.exit(1), 1);
        due("result", x.result(1), CUTOFF);
        due("none waits", x.count(2), 0);
        due("none waits to send", x.queueOf(0, 10), 0);
        due("take", x.take(2, 0, 3, 0, 1), 3);
        due("nothing came in", x.queueOf(0, 9), 0);
        due("result stays", x.result(1), CUTOFF);
    }

    private static void exitMayWaitToStep() {
        QueuesAndGates x = withProcesses(3);
        due("set", x.set(0, 1, 2, 1023), 0);
        due("undo", stepped(x, 1, 0, 1, 3, 2), 0);
        due("waits", stepped(x, 1, 0, 1, -4, 0), PENDING);
        due("exit", x.exit(1), 1);
        due("result", x.result(1), CUTOFF);
        due("none waits", x.count(2), 0);
        due("none waits on it", x.setOf(0, 8), 0);
        due("none waits for it to grow", x.counter(0, 1, 2), 0);
        due("undone", x.counter(0, 1, 0), 0);
        due("value", x.value(0, 0, 1, 9), 0);
        due("its steps are none", x.counter(0, 1, 0), 9);
    }

    // Terms 4: it WAITS no more ahead of what is undone: its own STEPS are not TRIED any more
    private static void exitIsNotServed() {
        QueuesAndGates x = withProcesses(3);
        due("set", x.set(0, 1, 2, 1023), 0);
        due("undo", stepped(x, 1, 0, 0, 3, 2), 0);
        x.step(1, 0, 0, 0);
        x.step(1, 1, 7, 0);
        due("waits for 0", x.steps(1, 0), PENDING);
        due("exit", x.exit(1), 1);
        due("undone", x.counter(0, 0, 0), 0);
        due("result", x.result(1), CUTOFF);
        due("its steps are not done", x.counter(0, 1, 0), 0);
        due("nor is it the last", x.counter(0, 1, 1), NONE);
    }

    // Promise 3: "(No RESULT.)"
    private static void exitHasNoResult() {
        QueuesAndGates x = withProcesses(3);
        due("queue", x.queue(1, 5, 0), ABSENT);
        due("exit", x.exit(1), 1);
        due("as before", x.result(1), ABSENT);
        due("exit", x.exit(2), 1);
        due("none yet", x.result(2), 0);
    }

    // Terms 4: "it does not LIVE"; the order of refusals: "NOT (it does not LIVE ..)"
    private static void exitedDoesNotLive() {
        QueuesAndGates x = withProcesses(3);
        due("queue", x.queue(1, 1, 1023), 0);
        due("set", x.set(1, 1, 1, 1023), 0);
        due("exit", x.exit(1), 1);
        due("living", x.count(1), 2);
        due("of all", x.count(0), 3);
        due("queue", x.queue(1, 1, 0), NOT);
        due("take", x.take(1, 0, 1, 0, 1), NOT);
        due("step", x.step(1, 0, 1, 0), NOT);
        due("its things stay", x.count(3) + x.count(4), 2);
    }

    // Terms 4: "the VALUE and it together, held in 0 .. 32767, is the VALUE": too small, and 0 itself
    private static void undoIsHeldAbove0() {
        QueuesAndGates x = withProcesses(4);
        due("set", x.set(0, 1, 3, 1023), 0);
        for (int c = 0; c < 3; c++) {
            due("undo -5", stepped(x, 1, 0, c, 5, 2), 0);
        }
        due("1 too few", stepped(x, 0, 0, 0, -1, 0), 0);
        due("1 more", stepped(x, 0, 0, 2, 1, 0), 0);
        due("exit", x.exit(1), 1);
        due("-1 is held", x.counter(0, 0, 0), 0);
        due("0", x.counter(0, 1, 0), 0);
        due("1", x.counter(0, 2, 0), 1);
    }

    // Terms 4: "held in 0 .. 32767": too large, and 32767 itself
    private static void undoIsHeldBelow32768() {
        QueuesAndGates x = withProcesses(4);
        due("set", x.set(0, 1, 3, 1023), 0);
        for (int c = 0; c < 3; c++) {
            due("5", stepped(x, 0, 0, c, 5, 0), 0);
            due("undo 5", stepped(x, 1, 0, c, -5, 2), 0);
        }
        due("steps", stepped(x, 0, 0, 0, 32763, 0), 0);
        due("steps", stepped(x, 0, 0, 1, 32762, 0), 0);
        due("steps", stepped(x, 0, 0, 2, 32761, 0), 0);
        due("exit", x.exit(1), 1);
        due("32768 is held", x.counter(0, 0, 0), 32767);
        due("32767", x.counter(0, 1, 0), 32767);
        due("32766", x.counter(0, 2, 0), 32766);
    }

    // Terms 4: "of each COUNTER of which its UNDO is not 0, .. LAST the PROCESS"
    private static void undoOf0IsNone() {
        QueuesAndGates x = withProcesses(4);
        due("set", x.set(0, 1, 3, 1023), 0);
        due("with undo", stepped(x, 1, 0, 0, 5, 2), 0);
        due("undo 0 again", stepped(x, 1, 0, 1, 5, 2), 0);
        due("undo 0 again", stepped(x, 1, 0, 1, -5, 2), 0);
        due("without undo", stepped(x, 1, 0, 2, 5, 0), 0);
        for (int c = 0; c < 3; c++) {
            due("another is the last", stepped(x, 2, 0, c, 1, 0), 0);
        }
        due("exit", x.exit(1), 1);
        due("value", x.counter(0, 0, 0), 1);
        due("last", x.counter(0, 0, 1), 1);
        due("value", x.counter(0, 1, 0), 1);
        due("last", x.counter(0, 1, 1), 2);
        due("value", x.counter(0, 2, 0), 6);
        due("last", x.counter(0, 2, 1), 2);
    }

    // Terms 4: "LAST the PROCESS", of a VALUE that is held where it was, too
    private static void undoIsLastThoughTheValueStays() {
        QueuesAndGates x = withProcesses(4);
        due("set", x.set(0, 1, 2, 1023), 0);
        due("undo -5", stepped(x, 1, 0, 0, 5, 2), 0);
        due("to 0", stepped(x, 2, 0, 0, -5, 0), 0);
        due("5", stepped(x, 2, 0, 1, 5, 0), 0);
        due("undo 5", stepped(x, 1, 0, 1, -5, 2), 0);
        due("to 32767", stepped(x, 2, 0, 1, 32767, 0), 0);
        due("exit", x.exit(1), 1);
        due("held", x.counter(0, 0, 0), 0);
        due("last", x.counter(0, 0, 1), 1);
        due("held", x.counter(0, 1, 0), 32767);
        due("last", x.counter(0, 1, 1), 1);
        due("undo", x.undo(1, 0, 0) + x.undo(1, 0, 1), 0);
    }

    // Terms 4: "(then all its UNDOES of the SET are 0)"
    private static void undoesOfTheSetAre0() {
        QueuesAndGates x = withProcesses(4);
        for (int id = 0; id < 2; id++) {
            due("set", x.set(0, 0, 2, 0777), id);
            due("undo -5", stepped(x, 1, id, 0, 5, 2), 0);
            due("undo -6", stepped(x, 1, id, 1, 6, 2), 0);
            due("another's", stepped(x, 2, id, 1, 7, 2), 0);
        }
        due("exit", x.exit(1), 1);
        for (int id = 0; id < 2; id++) {
            due("0", x.undo(1, id, 0), 0);
            due("0", x.undo(1, id, 1), 0);
            due("another's", x.undo(2, id, 1), -7);
            due("value", x.counter(id, 0, 0), 0);
            due("value", x.counter(id, 1, 0), 7);
        }
    }

    // Terms 4: "if any VALUE changed, the SET is SERVED"
    private static void undoServesIfAValueChanged() {
        QueuesAndGates x = withProcesses(6);
        for (int id = 0; id < 2; id++) {
            due("set", x.set(0, 0, 2, 0777), id);
            due("undo -5", stepped(x, 1, id, id, 5, 2), 0);
            due("waits for 0", stepped(x, 2 + id, id, id, 0, 0), PENDING);
        }
        due("waits for 1", stepped(x, 4, 1, 0, -1, 0), PENDING);
        due("exit", x.exit(1), 1);
        due("on set 0", x.result(2), 0);
        due("on set 1", x.result(3), 0);
        due("on the other counter", x.result(4), PENDING);
        due("last", x.counter(0, 0, 1), 2);
    }

    // Terms 4: the SET is SERVED behind all of its COUNTERS
    private static void undoServesBehindAllCounters() {
        QueuesAndGates x = withProcesses(5);
        due("set", x.set(0, 1, 2, 1023), 0);
        for (int c = 0; c < 2; c++) {
            due("up", stepped(x, 0, 0, c, 1, 0), 0);
            due("undo 1", stepped(x, 1, 0, c, -1, 2), 0);
        }
        x.step(2, 1, -1, 0);
        x.step(2, 0, -1, 0);
        due("waits for both", x.steps(2, 0), PENDING);
        due("waits for the first alone", stepped(x, 3, 0, 0, -1, 0), PENDING);
        due("exit", x.exit(1), 1);
        due("both", x.result(2), 0);
        due("the first alone", x.result(3), PENDING);
    }

    // Terms 4: "if any VALUE changed": one that nothing is undone for waits on, and so does one of another set
    private static void undoServesNoneElse() {
        QueuesAndGates x = withProcesses(5);
        due("set", x.set(0, 0, 2, 0777), 0);
        due("set", x.set(0, 0, 2, 0777), 1);
        due("undo -5", stepped(x, 1, 0, 0, 5, 2), 0);
        due("waits", stepped(x, 2, 0, 1, -1, 0), PENDING);
        due("waits", stepped(x, 3, 1, 0, -1, 0), PENDING);
        due("exit", x.exit(1), 1);
        due("waits on", x.result(2), PENDING);
        due("waits on", x.result(3), PENDING);
        due("both", x.count(2), 2);
    }

    // Promise 4: "One that WAITS goes on with RESULT CUTOFF: 1."
    private static void signalledTaker() {
        QueuesAndGates x = withProcesses(5);
        due("queue", x.queue(0, 1, 1023), 0);
        for (int p = 1; p <= 3; p++) {
            due("waits", x.take(p, 0, 9, 0, 0), PENDING);
        }
        due("signal", x.signal(2), 1);
        due("result", x.result(2), CUTOFF);
        due("living", x.count(1), 5);
        due("waiting", x.queueOf(0, 11), 2);
        due("send", x.send(0, 0, 1, 1, true), 0);
        due("the first", x.result(1), 1);
        due("the third waits", x.result(3), PENDING);
        due("send", x.send(0, 0, 1, 2, true), 0);
        due("the third", x.result(3), 2);
        due("the second has none", x.taken(2), 0);
        due("it may call again", x.take(2, 0, 9, 0, 1), NOMESSAGE);
    }

    private static void signalledSender() {
        QueuesAndGates x = withProcesses(5);
        due("queue", x.queue(0, 1, 1023), 0);
        due("room", x.room(0, 0, 2), 0);
        due("send", x.send(0, 0, 9, 2, true), 0);
        for (int p = 1; p <= 3; p++) {
            due("waits", x.send(p, 0, p, 1, false), PENDING);
        }
        due("signal", x.signal(1), 1);
        due("result", x.result(1), CUTOFF);
        due("waiting", x.queueOf(0, 10), 2);
        due("take", x.take(0, 0, 9, 0, 1), 2);
        due("without its message", x.message(0, 0, 0), 2);
        due("behind it", x.message(0, 1, 0), 3);
        due("result stays", x.result(1), CUTOFF);
    }

    private static void signalledStepper() {
        QueuesAndGates x = withProcesses(5);
        due("set", x.set(0, 1, 1, 1023), 0);
        for (int p = 1; p <= 3; p++) {
            due("waits", stepped(x, p, 0, 0, -2, 2), PENDING);
        }
        due("signal", x.signal(1), 1);
        due("result", x.result(1), CUTOFF);
        due("waiting", x.setOf(0, 8), 2);
        due("for it to grow", x.counter(0, 0, 2), 2);
        due("value", x.value(0, 0, 0, 3), 0);
        due("not the first", x.undo(1, 0, 0), 0);
        due("but the second", x.undo(2, 0, 0), 2);
        due("its steps are none", x.steps(1, 0), INVALID);
    }

    // Promise 4: "UNKNOWN"
    private static void signalUnknown() {
        QueuesAndGates x = withProcesses(3);
        for (int p : NO_PROCESS) {
            due("signal(" + p + ")", x.signal(p), UNKNOWN);
        }
    }

    // Promise 4: "NOT: it does not WAIT."
    private static void signalNot() {
        QueuesAndGates x = withProcesses(3);
        due("queue", x.queue(1, 1, 1023), 0);
        due("none yet", x.signal(2), NOT);
        due("RESULT stays", x.result(2), 0);
        due("waits", x.take(2, 0, 1, 0, 0), PENDING);
        due("signal", x.signal(2), 1);
        due("no longer", x.signal(2), NOT);
        due("RESULT stays", x.result(2), CUTOFF);
        due("exit", x.exit(2), 1);
        due("nor an ended one", x.signal(2), NOT);
        due("RESULT stays", x.result(2), CUTOFF);
    }

    // Promise 5: "(0: none yet)"
    private static void resultNoneYet() {
        QueuesAndGates x = withProcesses(16);
        for (int p = 0; p < 16; p++) {
            due("none yet", x.result(p), 0);
        }
    }

    // Promise 5: "UNKNOWN."
    private static void resultUnknown() {
        QueuesAndGates x = withProcesses(3);
        for (int p : NO_PROCESS) {
            due("result(" + p + ")", x.result(p), UNKNOWN);
        }
    }

    // Promise 6: "OUTSIDE: i"
    private static void areaIndex() {
        QueuesAndGates x = withProcesses(3);
        due("too small", x.area(1, -1, 7), OUTSIDE);
        due("too large", x.area(1, 64, 7), OUTSIDE);
        due("least int", x.area(1, Integer.MIN_VALUE, 7), OUTSIDE);
        due("greatest int", x.area(1, Integer.MAX_VALUE, 7), OUTSIDE);
        due("first", x.area(1, 0, 7), 0);
        due("last", x.area(1, 63, 8), 0);
        due("first", x.areaAt(1, 0), 7);
        due("last", x.areaAt(1, 63), 8);
    }

    // Promise 6: "v (0 .. 255)"; "OUTSIDE: .. v"
    private static void areaByte() {
        QueuesAndGates x = withProcesses(3);
        due("greatest", x.area(1, 5, 255), 0);
        due("too small", x.area(1, 5, -1), OUTSIDE);
        due("too large", x.area(1, 5, 256), OUTSIDE);
        due("least int", x.area(1, 5, Integer.MIN_VALUE), OUTSIDE);
        due("greatest int", x.area(1, 5, Integer.MAX_VALUE), OUTSIDE);
        due("what it was", x.area(1, 5, 0), 255);
        due("least", x.areaAt(1, 5), 0);
    }

    // Promise 6: "UNKNOWN; OUTSIDE: i, v."
    private static void areaUnknown() {
        QueuesAndGates x = withProcesses(3);
        for (int p : NO_PROCESS) {
            due("area of " + p, x.area(p, 0, 1), UNKNOWN);
            due("ahead of i", x.area(p, 64, 1), UNKNOWN);
            due("ahead of v", x.area(p, 0, 256), UNKNOWN);
        }
    }

    // Promise 6: "(No RESULT.)"
    private static void areaHasNoResult() {
        QueuesAndGates x = withProcesses(3);
        due("refused", x.queue(1, -1, 0), OUTSIDE);
        due("area", x.area(1, 0, 1), 0);
        due("area", x.area(1, 0, 2), 1);
        due("as before", x.result(1), OUTSIDE);
        due("refused", x.area(2, 64, 1), OUTSIDE);
        due("none yet", x.result(2), 0);
    }

    // Promise 7: "OUTSIDE."
    private static void areaAtIndex() {
        QueuesAndGates x = withProcesses(3);
        due("too small", x.areaAt(1, -1), OUTSIDE);
        due("too large", x.areaAt(1, 64), OUTSIDE);
        due("least int", x.areaAt(1, Integer.MIN_VALUE), OUTSIDE);
        due("greatest int", x.areaAt(1, Integer.MAX_VALUE), OUTSIDE);
        due("first", x.areaAt(1, 0), 0);
        due("last", x.areaAt(1, 63), 0);
    }

    // Promise 7: "Byte i of a PROCESS's AREA (0 .. 255)": no sign, whether put or taken
    private static void areaAtByte() {
        QueuesAndGates x = withProcesses(3);
        due("queue", x.queue(1, 1, 1023), 0);
        due("area", x.area(1, 0, 255), 0);
        due("area", x.area(1, 1, 128), 0);
        due("255", x.areaAt(1, 0), 255);
        due("send", x.send(1, 0, 1, 2, true), 0);
        due("in the row", x.message(0, 0, 2), 255);
        due("take", x.take(2, 0, 2, 0, 1), 2);
        due("255", x.areaAt(2, 0), 255);
        due("128", x.areaAt(2, 1), 128);
    }

    // Promise 7: "UNKNOWN; OUTSIDE."
    private static void areaAtUnknown() {
        QueuesAndGates x = withProcesses(3);
        for (int p : NO_PROCESS) {
            due("areaAt of " + p, x.areaAt(p, 0), UNKNOWN);
            due("ahead of i", x.areaAt(p, 64), UNKNOWN);
        }
    }

    // Promise 8: "0: none"
    private static void takenNone() {
        QueuesAndGates x = withProcesses(3);
        due("queue", x.queue(1, 1, 1023), 0);
        due("none", x.taken(1), 0);
        due("send", x.send(1, 0, Long.MAX_VALUE, 1, true), 0);
        due("sent, not taken", x.taken(1), 0);
        due("no message of the type", x.take(1, 0, 1, 4, 1), NOMESSAGE);
        due("too big", x.take(1, 0, 0, 0, 1), TOOBIG);
        due("still none", x.taken(1), 0);
        due("take", x.take(1, 0, 1, 0, 1), 1);
        due("the greatest type", x.taken(1), Long.MAX_VALUE);
        due("of the other", x.taken(2), 0);
    }

    // Promise 8: "UNKNOWN."
    private static void takenUnknown() {
        QueuesAndGates x = withProcesses(3);
        for (int p : NO_PROCESS) {
            due("taken(" + p + ")", x.taken(p), UNKNOWN);
        }
    }
}

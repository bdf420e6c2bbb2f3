/** The edges that Terms 3 and promises 16 to 18 name: a method for each sentence, on an object of its own. */
public final class EdgesOfCountersTest extends Check {
    private static final int TOP = 32767;
    private static final int[] NO_IDS = {-1, -12, 1, 11, 12, 24, Integer.MIN_VALUE, Integer.MIN_VALUE + 8, Integer.MAX_VALUE};

    public static void main(String[] args) {
        atFirst();
        changeOf0();
        changeBelow0();
        changeAbove0();
        undoBeyondBelow();
        undoBeyondAbove();
        undoWithin();
        undoOf0();
        valuesAsLeftByTheOnesBefore();
        undoesAsLeftByTheOnesBefore();
        stopsAheadOfRange();
        stopsAheadOfUndo();
        allIsAsBeforeAtAStop();
        allIsAsBeforeAtARange();
        lastOfEachNamed();
        undoOfThoseWithUndo();
        servedWhereValuesAreOthers();
        servedNotWhereValuesAreAsAhead();
        servedInTheirOrder();
        servedRangeGoesOn();
        servedStopsWaitsOn();
        servedFromTheFirstAgain();
        servedByAll();
        servedOnOneSetAlone();
        servedInTurnAgain();
        stepCounter();
        stepChange();
        stepWay();
        stepFull();
        stepTheEighth();
        stepHasNoResult();
        stepUnknownAndNot();
        stepsNoneAnyMore();
        stepsStayThroughNot();
        stepsNoId();
        stepsNoSteps();
        stepsNoCounter();
        stepsAccess();
        stepsRange();
        stepsAgain();
        stepsWait();
        valueBounds();
        valueNoId();
        valueNoCounter();
        valueAccess();
        valueClearsUndoes();
        valueServes();
        valueServesBehindAll();
        valueThatItHas();
        end();
    }

    /** Processes, and one set of 3 counters that all may use. */
    private static QueuesAndGates withSet() {
        QueuesAndGates x = withProcesses(16);
        due("set", x.set(0, 1, 3, 1023), 0);
        return x;
    }

    // Terms 1: "COUNTERS, each a VALUE 0 .. 32767 (0 at first) and LAST, a PROCESS (NONE)"; "an UNDO (0 at first)"
    private static void atFirst() {
        QueuesAndGates x = withProcesses(16);
        due("set", x.set(15, 1, 8, 1023), 0);
        for (int c = 0; c < 8; c++) {
            due("value", x.counter(0, c, 0), 0);
            due("last", x.counter(0, c, 1), NONE);
            due("to grow", x.counter(0, c, 2), 0);
            due("to be 0", x.counter(0, c, 3), 0);
            for (int p = 0; p < 16; p++) {
                due("undo", x.undo(p, 0, c), 0);
            }
        }
    }

    // Terms 3: "CHANGE 0: STOPS unless the VALUE is 0"
    private static void changeOf0() {
        QueuesAndGates x = withSet();
        due("of 0", stepped(x, 1, 0, 0, 0, 1), 0);
        due("up", stepped(x, 1, 0, 0, 1, 0), 0);
        due("of 1", stepped(x, 1, 0, 0, 0, 1), AGAIN);
        due("of 1", stepped(x, 2, 0, 0, 0, 0), PENDING);
        due("to the greatest", stepped(x, 1, 0, 0, TOP - 1, 0), 0);
        due("waits on", x.result(2), PENDING);
        due("of 32767", stepped(x, 1, 0, 0, 0, 1), AGAIN);
        due("down", stepped(x, 1, 0, 0, -TOP, 0), 0);
        due("of 0", x.result(2), 0);
    }

    // Terms 3: "below 0: STOPS, if the VALUE would be below 0"
    private static void changeBelow0() {
        QueuesAndGates x = withSet();
        due("0 less 1", stepped(x, 1, 0, 0, -1, 1), AGAIN);
        due("0 less 32767", stepped(x, 1, 0, 0, -TOP, 1), AGAIN);
        due("up", stepped(x, 1, 0, 0, 3, 0), 0);
        due("3 less 4", stepped(x, 1, 0, 0, -4, 1), AGAIN);
        due("3 less 3", stepped(x, 1, 0, 0, -3, 1), 0);
        due("value", x.counter(0, 0, 0), 0);
        due("up", stepped(x, 1, 0, 0, TOP, 0), 0);
        due("all of it", stepped(x, 1, 0, 0, -TOP, 1), 0);
        due("value", x.counter(0, 0, 0), 0);
    }

    // Terms 3: "above 0: RANGE, if it would be above 32767"
    private static void changeAbove0() {
        QueuesAndGates x = withSet();
        due("to 32767", stepped(x, 1, 0, 0, TOP, 0), 0);
        due("to 32768", stepped(x, 1, 0, 0, 1, 0), RANGE);
        due("to 65534", stepped(x, 1, 0, 0, TOP, 1), RANGE);
        due("value", x.counter(0, 0, 0), TOP);
        due("of another", stepped(x, 1, 0, 1, TOP - 1, 0), 0);
        due("to 32768", stepped(x, 1, 0, 1, 2, 0), RANGE);
        due("to 32767", stepped(x, 1, 0, 1, 1, 0), 0);
        due("value", x.counter(0, 1, 0), TOP);
    }

    // Terms 3: "with UNDO: RANGE, if UNDO less the CHANGE is beyond 32767 in size": below
    private static void undoBeyondBelow() {
        QueuesAndGates x = withSet();
        due("to -32767", stepped(x, 1, 0, 0, TOP, 2), 0);
        due("undo", x.undo(1, 0, 0), -TOP);
        due("down", stepped(x, 2, 0, 0, -9, 0), 0);
        due("to -32768", stepped(x, 1, 0, 0, 1, 2), RANGE);
        due("undo stays", x.undo(1, 0, 0), -TOP);
        due("value stays", x.counter(0, 0, 0), TOP - 9);
        due("last stays", x.counter(0, 0, 1), 2);
        due("without undo", stepped(x, 1, 0, 0, 1, 0), 0);
        due("of another process", stepped(x, 2, 0, 0, 1, 2), 0);
        due("of another counter", stepped(x, 1, 0, 1, 1, 2), 0);
        due("back to -32766", stepped(x, 1, 0, 0, -1, 2), 0);
        due("to -32767", stepped(x, 1, 0, 0, 1, 2), 0);
    }

    // Terms 3: the same above
    private static void undoBeyondAbove() {
        QueuesAndGates x = withSet();
        due("up", stepped(x, 2, 0, 0, TOP, 0), 0);
        due("to 32767", stepped(x, 1, 0, 0, -TOP, 2), 0);
        due("undo", x.undo(1, 0, 0), TOP);
        due("up", stepped(x, 2, 0, 0, 9, 0), 0);
        due("to 32768", stepped(x, 1, 0, 0, -1, 2), RANGE);
        due("undo stays", x.undo(1, 0, 0), TOP);
        due("value stays", x.counter(0, 0, 0), 9);
        due("without undo", stepped(x, 1, 0, 0, -1, 0), 0);
        due("a change of 0 is none", stepped(x, 1, 0, 1, 0, 2), 0);
        due("back to 32766", stepped(x, 1, 0, 0, 1, 2), 0);
        due("to 32767", stepped(x, 1, 0, 0, -1, 2), 0);
    }

    // Terms 3: "UNDO less CHANGES of those with UNDO": from one end to the other
    private static void undoWithin() {
        QueuesAndGates x = withSet();
        due("to -32767", stepped(x, 1, 0, 0, TOP, 2), 0);
        due("to 0", stepped(x, 1, 0, 0, -TOP, 2), 0);
        due("undo", x.undo(1, 0, 0), 0);
        due("up", stepped(x, 2, 0, 0, TOP, 0), 0);
        due("to 32767", stepped(x, 1, 0, 0, -TOP, 2), 0);
        due("to 0", stepped(x, 1, 0, 0, TOP, 2), 0);
        due("undo", x.undo(1, 0, 0), 0);
        due("exit", x.exit(1), 1);
        due("nothing to undo", x.counter(0, 0, 0), TOP);
    }

    // Terms 3: "UNDO less the CHANGE": a change of 0 leaves an UNDO at either end within
    private static void undoOf0() {
        QueuesAndGates x = withSet();
        due("to -32767", stepped(x, 1, 0, 0, TOP, 2), 0);
        due("down", stepped(x, 2, 0, 0, -TOP, 0), 0);
        due("by 0", stepped(x, 1, 0, 0, 0, 3), 0);
        due("undo", x.undo(1, 0, 0), -TOP);
        due("up", stepped(x, 2, 0, 1, TOP, 0), 0);
        due("to 32767", stepped(x, 1, 0, 1, -TOP, 2), 0);
        due("by 0", stepped(x, 1, 0, 1, 0, 3), 0);
        due("undo", x.undo(1, 0, 1), TOP);
    }

    // Terms 3: "one by one, on VALUES .. as the ones before left them"
    private static void valuesAsLeftByTheOnesBefore() {
        QueuesAndGates x = withSet();
        x.step(1, 0, TOP, 0);
        x.step(1, 0, -TOP, 1);
        x.step(1, 0, 0, 1);
        x.step(1, 0, 1, 0);
        x.step(1, 0, -1, 1);
        x.step(1, 0, 5, 0);
        due("each on what is left", x.steps(1, 0), 0);
        due("value", x.counter(0, 0, 0), 5);
        x.step(1, 0, TOP - 5, 0);
        x.step(1, 0, 1, 0);
        due("beyond by two", x.steps(1, 0), RANGE);
        x.step(1, 0, -3, 1);
        x.step(1, 0, -3, 1);
        due("too few for two", x.steps(1, 0), AGAIN);
        x.step(1, 0, 1, 0);
        x.step(1, 0, -6, 1);
        due("just enough", x.steps(1, 0), 0);
        x.step(1, 0, 1, 0);
        x.step(1, 0, 0, 1);
        due("no longer 0", x.steps(1, 0), AGAIN);
    }

    // Terms 3: "one by one, on .. UNDOES as the ones before left them"
    private static void undoesAsLeftByTheOnesBefore() {
        QueuesAndGates x = withSet();
        x.step(1, 0, TOP, 2);
        x.step(1, 0, -1, 0);
        x.step(1, 0, 1, 2);
        due("to -32768 by two", x.steps(1, 0), RANGE);
        due("undo stays", x.undo(1, 0, 0), 0);
        due("value stays", x.counter(0, 0, 0), 0);
        x.step(1, 0, TOP, 2);
        x.step(1, 0, -1, 2);
        x.step(1, 0, 1, 2);
        due("-32767 twice", x.steps(1, 0), 0);
        due("undo", x.undo(1, 0, 0), -TOP);
        x.step(1, 0, -TOP, 2);
        x.step(1, 0, TOP, 0);
        x.step(1, 0, -TOP, 2);
        x.step(1, 0, 1, 0);
        x.step(1, 0, -1, 2);
        due("to 32768 by three", x.steps(1, 0), RANGE);
        due("undo stays", x.undo(1, 0, 0), -TOP);
    }

    // Terms 3: "At the first that STOPS or is RANGE"
    private static void stopsAheadOfRange() {
        QueuesAndGates x = withSet();
        due("up", stepped(x, 1, 0, 1, TOP, 0), 0);
        x.step(1, 0, -1, 1);
        x.step(1, 1, 1, 0);
        due("stops first", x.steps(1, 0), AGAIN);
        x.step(1, 1, 1, 0);
        x.step(1, 0, -1, 1);
        due("is beyond first", x.steps(1, 0), RANGE);
        x.step(1, 0, -1, 0);
        x.step(1, 1, 1, 0);
        due("stops first", x.steps(1, 0), PENDING);
        due("signal", x.signal(1), 1);
        x.step(1, 0, -1, 1);
        x.step(1, 0, -1, 0);
        due("of the first that stops", x.steps(1, 0), AGAIN);
    }

    // Terms 3: of one STEP: below 0 it STOPS, above 0 it is RANGE by its VALUE, ahead of what its UNDO would be
    private static void stopsAheadOfUndo() {
        QueuesAndGates x = withSet();
        due("up", stepped(x, 2, 0, 0, TOP, 0), 0);
        due("undo 32767", stepped(x, 1, 0, 0, -TOP, 2), 0);
        due("it stops", stepped(x, 1, 0, 0, -1, 3), AGAIN);
        due("it stops", stepped(x, 1, 0, 0, -1, 2), PENDING);
        due("up", stepped(x, 2, 0, 0, 1, 0), 0);
        due("its undo is beyond", x.result(1), RANGE);
        due("value", x.counter(0, 0, 0), 1);
    }

    // Terms 3: "At the first that STOPS .. all is as before."
    private static void allIsAsBeforeAtAStop() {
        QueuesAndGates x = withSet();
        due("up", stepped(x, 2, 0, 0, 5, 2), 0);
        for (int way = 1; way >= 0; way--) {
            x.step(1, 0, 3, 2);
            x.step(1, 0, -1, 0);
            x.step(1, 1, 0, 2);
            x.step(1, 2, 4, 2);
            x.step(1, 1, -1, way);
            due("the last stops", x.steps(1, 0), way == 1 ? AGAIN : PENDING);
            due("value", x.counter(0, 0, 0), 5);
            due("value", x.counter(0, 2, 0), 0);
            due("last", x.counter(0, 0, 1), 2);
            due("last", x.counter(0, 1, 1), NONE);
            due("last", x.counter(0, 2, 1), NONE);
            due("undo", x.undo(1, 0, 0) + x.undo(1, 0, 2), 0);
            due("undo", x.undo(2, 0, 0), -5);
        }
    }

    // Terms 3: "At the first that .. is RANGE all is as before."
    private static void allIsAsBeforeAtARange() {
        QueuesAndGates x = withSet();
        due("up", stepped(x, 2, 0, 0, 5, 2), 0);
        due("waits", stepped(x, 3, 0, 0, -6, 0), PENDING);
        x.step(1, 0, 3, 2);
        x.step(1, 1, 0, 2);
        x.step(1, 2, TOP, 2);
        x.step(1, 2, 1, 0);
        due("the last is beyond", x.steps(1, 0), RANGE);
        due("RESULT", x.result(1), RANGE);
        due("value", x.counter(0, 0, 0), 5);
        due("value", x.counter(0, 2, 0), 0);
        due("last", x.counter(0, 0, 1), 2);
        due("last", x.counter(0, 1, 1), NONE);
        due("last", x.counter(0, 2, 1), NONE);
        due("undo", x.undo(1, 0, 0), 0);
        due("undo", x.undo(1, 0, 2), 0);
        due("none is served", x.result(3), PENDING);
    }

    // Terms 3: "LAST of each COUNTER named (CHANGES of 0, too)"
    private static void lastOfEachNamed() {
        QueuesAndGates x = withSet();
        x.step(1, 0, 0, 0);
        x.step(1, 1, 2, 0);
        x.step(1, 1, -2, 0);
        due("done", x.steps(1, 0), 0);
        due("by 0", x.counter(0, 0, 1), 1);
        due("to and fro", x.counter(0, 1, 1), 1);
        due("not named", x.counter(0, 2, 1), NONE);
        due("by process 0", stepped(x, 0, 0, 0, 0, 0), 0);
        due("process 0", x.counter(0, 0, 1), 0);
        due("of the other it stays", x.counter(0, 1, 1), 1);
        due("by process 15", stepped(x, 15, 0, 2, 1, 0), 0);
        due("process 15", x.counter(0, 2, 1), 15);
    }

    // Terms 3: "UNDO less CHANGES of those with UNDO"
    private static void undoOfThoseWithUndo() {
        QueuesAndGates x = withSet();
        x.step(1, 0, 9, 2);
        x.step(1, 0, 4, 0);
        x.step(1, 0, -2, 3);
        x.step(1, 1, 5, 0);
        x.step(1, 2, 6, 3);
        due("done", x.steps(1, 0), 0);
        due("9 less 2", x.undo(1, 0, 0), -7);
        due("none", x.undo(1, 0, 1), 0);
        due("6", x.undo(1, 0, 2), -6);
        due("of no other", x.undo(0, 0, 0) + x.undo(2, 0, 2), 0);
        due("exit", x.exit(1), 1);
        due("what is left", x.counter(0, 0, 0), 4);
        due("what is left", x.counter(0, 1, 0), 5);
        due("what is left", x.counter(0, 2, 0), 0);
    }

    // Terms 3: "Where VALUES are others behind all STEPS of a call than ahead of them .. the SET is SERVED"
    private static void servedWhereValuesAreOthers() {
        QueuesAndGates x = withSet();
        due("waits for 2", stepped(x, 1, 0, 0, -2, 0), PENDING);
        due("waits for 0", stepped(x, 2, 0, 0, 0, 0), 0);
        due("1", stepped(x, 3, 0, 0, 1, 0), 0);
        due("too few", x.result(1), PENDING);
        due("waits for 0", stepped(x, 2, 0, 0, 0, 0), PENDING);
        due("2", stepped(x, 3, 0, 0, 1, 0), 0);
        due("enough", x.result(1), 0);
        due("0 then", x.result(2), 0);
        due("last", x.counter(0, 0, 1), 2);
    }

    // Terms 3: the SET is not SERVED on the way through the STEPS, but behind all of them
    private static void servedNotWhereValuesAreAsAhead() {
        QueuesAndGates x = withSet();
        due("waits for 1", stepped(x, 1, 0, 0, -1, 0), PENDING);
        x.step(2, 0, 1, 0);
        x.step(2, 0, -1, 0);
        due("up and down", x.steps(2, 0), 0);
        due("waits on", x.result(1), PENDING);
        due("value", x.counter(0, 0, 0), 0);
        x.step(2, 0, 1, 0);
        x.step(2, 0, -1, 0);
        x.step(2, 1, 1, 0);
        due("of another counter", x.steps(2, 0), 0);
        due("waits on", x.result(1), PENDING);
    }

    // Terms 3: "those that WAIT on it, in the order in which they came to WAIT: each TRIES its STEPS: DONE: RESULT 0"
    private static void servedInTheirOrder() {
        QueuesAndGates x = withSet();
        int[] order = {9, 3, 12, 1};
        for (int p : order) {
            due("waits", stepped(x, p, 0, 0, -2, 2), PENDING);
        }
        for (int i = 0; i < order.length; i++) {
            due("the first of them wait", x.setOf(0, 8), order.length - i);
            due("3, and then 1 to the 1 left", stepped(x, 0, 0, 0, i == 0 ? 3 : 2, 0), 0);
            due("done", x.result(order[i]), 0);
            due("last", x.counter(0, 0, 1), order[i]);
            due("undo", x.undo(order[i], 0, 0), 2);
            due("value", x.counter(0, 0, 0), 1);
        }
        due("none waits", x.count(2), 0);
    }

    // Terms 3: "RANGE: RESULT RANGE: both go on"
    private static void servedRangeGoesOn() {
        QueuesAndGates x = withSet();
        due("up", stepped(x, 0, 0, 1, TOP, 0), 0);
        x.step(1, 0, -1, 2);
        x.step(1, 1, 1, 0);
        due("waits", x.steps(1, 0), PENDING);
        due("waits", stepped(x, 2, 0, 0, -1, 0), PENDING);
        due("one more", stepped(x, 0, 0, 0, 1, 0), 0);
        due("beyond", x.result(1), RANGE);
        due("the next", x.result(2), 0);
        due("no undo", x.undo(1, 0, 0), 0);
        due("last", x.counter(0, 1, 1), 0);
        due("none waits", x.count(2), 0);
        due("it may call", x.steps(1, 0), INVALID);
        due("up", stepped(x, 1, 0, 0, TOP, 2), 0);
        due("down", stepped(x, 0, 0, 0, -TOP, 0), 0);
        x.step(1, 2, -1, 0);
        x.step(1, 0, 1, 2);
        due("waits", x.steps(1, 0), PENDING);
        due("one more", stepped(x, 0, 0, 2, 1, 0), 0);
        due("its undo would be beyond", x.result(1), RANGE);
    }

    // Terms 3: one that STOPS as it TRIES waits on, at that STEP
    private static void servedStopsWaitsOn() {
        QueuesAndGates x = withSet();
        x.step(1, 0, -1, 0);
        x.step(1, 1, -1, 1);
        x.step(1, 2, 0, 0);
        due("waits", x.steps(1, 0), PENDING);
        due("at the first", x.counter(0, 0, 2), 1);
        due("at the first", x.counter(0, 1, 2), 0);
        due("up", stepped(x, 2, 0, 2, 1, 0), 0);
        due("at the first still", x.counter(0, 0, 2), 1);
        due("up", stepped(x, 2, 0, 0, 1, 0), 0);
        due("at the second, though it is NOWAIT", x.result(1), PENDING);
        due("at the second", x.counter(0, 1, 2), 1);
        due("not at the first", x.counter(0, 0, 2), 0);
        due("up", stepped(x, 2, 0, 1, 1, 0), 0);
        due("at the third", x.counter(0, 2, 3), 1);
        due("to grow", x.counter(0, 2, 2), 0);
        due("not at the second", x.counter(0, 1, 2), 0);
        due("down", stepped(x, 2, 0, 0, -1, 0), 0);
        due("at the first again", x.counter(0, 0, 2), 1);
        due("up", stepped(x, 2, 0, 0, 1, 0), 0);
        due("down", stepped(x, 2, 0, 2, -1, 0), 0);
        due("done", x.result(1), 0);
        due("last", x.counter(0, 2, 1), 1);
    }

    // Terms 3: "behind one by whose STEPS a VALUE is another again from the first one on"
    private static void servedFromTheFirstAgain() {
        QueuesAndGates x = withSet();
        due("first, for counter 2", stepped(x, 1, 0, 2, -1, 0), PENDING);
        x.step(2, 1, -1, 0);
        x.step(2, 2, 1, 0);
        due("second, for counter 1", x.steps(2, 0), PENDING);
        x.step(3, 0, -1, 0);
        x.step(3, 1, 1, 0);
        due("third, for counter 0", x.steps(3, 0), PENDING);
        due("fourth, for counter 2", stepped(x, 4, 0, 2, -1, 0), PENDING);
        due("up", stepped(x, 0, 0, 0, 1, 0), 0);
        for (int p = 1; p <= 3; p++) {
            due("done", x.result(p), 0);
        }
        due("the fourth came too late", x.result(4), PENDING);
        for (int c = 0; c < 3; c++) {
            due("value", x.counter(0, c, 0), 0);
            due("last", x.counter(0, c, 1), 3 - c);
        }
    }

    // Terms 3: "again from the first one on", as often as all that WAIT need it: each one lets in the one ahead of it
    private static void servedByAll() {
        QueuesAndGates x = withSet();
        for (int p = 1; p <= 15; p++) {
            x.step(p, 0, p - 16, 0);
            x.step(p, 0, 17 - p, 0);
            due("waits", x.steps(p, 0), PENDING);
        }
        due("wait", x.setOf(0, 8), 15);
        due("up", stepped(x, 0, 0, 0, 1, 0), 0);
        due("none waits", x.count(2), 0);
        due("value", x.counter(0, 0, 0), 16);
        due("the first was the last", x.counter(0, 0, 1), 1);
    }

    // Terms 3: "those that WAIT on it": on no other SET
    private static void servedOnOneSetAlone() {
        QueuesAndGates x = withSet();
        due("set", x.set(0, 2, 3, 1023), 1);
        due("waits", stepped(x, 1, 1, 0, -1, 0), PENDING);
        due("queue", x.queue(0, 1, 1023), 0);
        due("waits to take", x.take(2, 0, 1, 0, 0), PENDING);
        due("waits behind them", stepped(x, 3, 0, 0, -6, 0), PENDING);
        due("up", stepped(x, 0, 0, 0, 5, 0), 0);
        due("on the other", x.result(1), PENDING);
        due("to take", x.result(2), PENDING);
        due("value stays", x.counter(0, 0, 0), 5);
        due("up", stepped(x, 0, 0, 0, 1, 0), 0);
        due("behind them", x.result(3), 0);
        due("on the other", x.result(1), PENDING);
    }

    // Terms 3: "in the order in which they came to WAIT": one that waits again comes behind
    private static void servedInTurnAgain() {
        QueuesAndGates x = withSet();
        due("waits", stepped(x, 1, 0, 0, -1, 0), PENDING);
        due("waits", stepped(x, 2, 0, 0, -1, 0), PENDING);
        due("signal", x.signal(1), 1);
        due("waits again", stepped(x, 1, 0, 0, -1, 0), PENDING);
        due("up", stepped(x, 0, 0, 0, 1, 0), 0);
        due("behind", x.result(1), PENDING);
        due("ahead", x.result(2), 0);
        due("waits again", stepped(x, 2, 0, 0, -1, 0), PENDING);
        due("up", x.value(0, 0, 0, 1), 0);
        due("ahead", x.result(1), 0);
        due("behind", x.result(2), PENDING);
    }

    // Promise 16: "OUTSIDE: COUNTER 0 .. 7"
    private static void stepCounter() {
        QueuesAndGates x = withSet();
        for (int c : new int[] {-1, 8, Integer.MIN_VALUE, Integer.MAX_VALUE}) {
            due("counter " + c, x.step(1, c, 1, 0), OUTSIDE);
        }
        due("least", x.step(1, 0, 1, 0), 1);
        due("greatest", x.step(1, 7, 1, 0), 2);
    }

    // Promise 16: "OUTSIDE: .. CHANGE"; Terms 3: "a CHANGE (-32767 .. 32767)"
    private static void stepChange() {
        QueuesAndGates x = withSet();
        for (int change : new int[] {-32768, 32768, 65536, Integer.MIN_VALUE, Integer.MAX_VALUE}) {
            due("change " + change, x.step(1, 0, change, 0), OUTSIDE);
        }
        due("greatest", x.step(1, 0, TOP, 0), 1);
        due("least", x.step(1, 0, -TOP, 0), 2);
        due("none", x.step(1, 0, 0, 0), 3);
        due("all of them", x.steps(1, 0), 0);
    }

    // Promise 16: "OUTSIDE: .. way 0 .. 3"
    private static void stepWay() {
        QueuesAndGates x = withSet();
        for (int way : new int[] {-1, 4, 5, Integer.MIN_VALUE, Integer.MIN_VALUE + 1, Integer.MAX_VALUE}) {
            due("way " + way, x.step(1, 0, 1, way), OUTSIDE);
        }
        due("least", x.step(1, 0, 1, 0), 1);
        due("greatest", x.step(1, 0, 1, 3), 2);
        due("done", x.steps(1, 0), 0);
        due("undo of one alone", x.undo(1, 0, 0), -1);
        due("NOWAIT alone", stepped(x, 1, 0, 0, -9, 1), AGAIN);
        due("both", stepped(x, 1, 0, 0, -9, 3), AGAIN);
        due("UNDO alone", stepped(x, 1, 0, 0, -9, 2), PENDING);
    }

    // Promise 16: "FULL"; Terms 3: "STEPS on a SET (8 at most)"
    private static void stepFull() {
        QueuesAndGates x = withSet();
        for (int i = 1; i <= 8; i++) {
            due("how many", x.step(1, 0, i, 0), i);
        }
        due("a 9th", x.step(1, 0, 100, 0), FULL);
        due("OUTSIDE goes ahead", x.step(1, 8, 100, 0), OUTSIDE);
        due("OUTSIDE goes ahead", x.step(1, 0, 32768, 0), OUTSIDE);
        due("OUTSIDE goes ahead", x.step(1, 0, 100, 4), OUTSIDE);
        due("a 9th", x.step(1, 0, 100, 0), FULL);
        due("of another", x.step(2, 0, 1, 0), 1);
        due("done", x.steps(1, 0), 0);
        due("eight of them", x.counter(0, 0, 0), 36);
        due("again from the first", x.step(1, 0, 1, 0), 1);
    }

    // Terms 3: "8 at most": the eighth is one like the others
    private static void stepTheEighth() {
        QueuesAndGates x = withSet();
        for (int i = 1; i < 8; i++) {
            due("step", x.step(1, 0, 1, 0), i);
        }
        due("with undo", x.step(1, 1, 5, 2), 8);
        due("done", x.steps(1, 0), 0);
        due("its undo", x.undo(1, 0, 1), -5);
        due("its last", x.counter(0, 1, 1), 1);
        for (int way = 1; way >= 0; way--) {
            for (int i = 1; i < 8; i++) {
                due("step", x.step(1, 0, 1, 1 - way), i);
            }
            due("one that stops", x.step(1, 2, -1, way), 8);
            due("by its own way", x.steps(1, 0), way == 1 ? AGAIN : PENDING);
        }
        due("it stopped at the eighth", x.counter(0, 2, 2), 1);
        due("nothing is done", x.counter(0, 0, 0), 7);
        due("up", stepped(x, 2, 0, 2, 1, 0), 0);
        due("all are done", x.counter(0, 0, 0), 14);
        due("result", x.result(1), 0);
    }

    // Promise 16: "(No RESULT.)"
    private static void stepHasNoResult() {
        QueuesAndGates x = withSet();
        due("none yet", x.step(1, 0, 1, 0), 1);
        due("none yet", x.result(1), 0);
        due("absent", x.queue(1, 9, 0), ABSENT);
        due("step", x.step(1, 0, 1, 0), 2);
        due("refused", x.step(1, 8, 1, 0), OUTSIDE);
        for (int i = 3; i <= 8; i++) {
            due("step", x.step(1, 0, 1, 0), i);
        }
        due("full", x.step(1, 0, 1, 0), FULL);
        due("as before", x.result(1), ABSENT);
    }

    // Promise 16: "UNKNOWN; NOT; OUTSIDE: .."
    private static void stepUnknownAndNot() {
        QueuesAndGates x = withProcesses(3);
        due("set", x.set(0, 1, 3, 1023), 0);
        for (int p : new int[] {-1, 3, 16, Integer.MIN_VALUE, Integer.MAX_VALUE}) {
            due("process " + p, x.step(p, 0, 1, 0), UNKNOWN);
            due("ahead of OUTSIDE", x.step(p, 8, 1, 0), UNKNOWN);
        }
        due("waits", stepped(x, 1, 0, 0, -1, 0), PENDING);
        due("as it waits", x.step(1, 0, 1, 0), NOT);
        due("ahead of OUTSIDE", x.step(1, 0, 1, 4), NOT);
        due("RESULT stays", x.result(1), PENDING);
        due("exit", x.exit(2), 1);
        due("ended", x.step(2, 0, 1, 0), NOT);
        due("ahead of OUTSIDE", x.step(2, 0, 32768, 0), NOT);
        due("its step stays as it was", x.value(0, 0, 0, 1), 0);
        due("done", x.result(1), 0);
        due("value", x.counter(0, 0, 0), 0);
    }

    // Promise 17: "The STEPS (which are none any more, whatever comes but UNKNOWN, NOT)"
    private static void stepsNoneAnyMore() {
        QueuesAndGates x = withProcesses(3);
        due("set", x.set(0, 1, 2, 512 + 0704), 0);
        due("no id", stepped(x, 1, 5, 0, 1, 0), INVALID);
        due("behind INVALID", x.step(1, 2, 1, 0), 1);
        due("no counter", x.steps(1, 0), INVALID);
        due("behind INVALID", x.step(1, 0, 1, 0), 1);
        due("access", x.steps(1, 0), ACCESS);
        due("behind ACCESS", x.step(1, 0, 0, 0), 1);
        due("it reads", x.steps(1, 0), 0);
        due("step", x.step(0, 0, TOP, 0), 1);
        due("done", x.steps(0, 0), 0);
        due("behind 0", x.step(0, 0, 1, 0), 1);
        due("range", x.steps(0, 0), RANGE);
        due("behind RANGE", x.step(0, 1, -1, 1), 1);
        due("again", x.steps(0, 0), AGAIN);
        due("behind AGAIN", x.step(0, 1, -1, 0), 1);
        due("pending", x.steps(0, 0), PENDING);
        due("signal", x.signal(0), 1);
        due("behind PENDING", x.steps(0, 0), INVALID);
        x.step(0, 0, -1, 0);
        x.step(0, 7, 1, 0);
        x.step(0, 0, 1, 0);
        due("no counter 7", x.steps(0, 0), INVALID);
        due("a single one", stepped(x, 0, 0, 0, -1, 0), 0);
        due("nothing of those before", x.counter(0, 0, 0), TOP - 1);
    }

    // Promise 17: "but UNKNOWN, NOT"
    private static void stepsStayThroughNot() {
        QueuesAndGates x = withSet();
        due("queue", x.queue(0, 1, 1023), 0);
        due("step", x.step(1, 0, 4, 0), 1);
        due("step", x.step(1, 1, 5, 0), 2);
        due("waits", x.take(1, 0, 1, 0, 0), PENDING);
        due("as it waits", x.steps(1, 0), NOT);
        due("as it waits", x.steps(1, 9), NOT);
        due("unknown", x.steps(16, 0), UNKNOWN);
        due("RESULT stays", x.result(1), PENDING);
        due("signal", x.signal(1), 1);
        due("a third", x.step(1, 2, 6, 0), 3);
        due("done", x.steps(1, 0), 0);
        due("value", x.counter(0, 0, 0), 4);
        due("value", x.counter(0, 1, 0), 5);
        due("value", x.counter(0, 2, 0), 6);
    }

    // Promise 17: "INVALID: no ID"
    private static void stepsNoId() {
        QueuesAndGates x = withSet();
        due("queue", x.queue(0, 1, 1023), 0);
        due("queue", x.queue(0, 2, 1023), 1);
        for (int id : NO_IDS) {
            due("id " + id, stepped(x, 1, id, 0, 1, 0), INVALID);
        }
        due("RESULT", x.result(1), INVALID);
        due("value", x.counter(0, 0, 0), 0);
    }

    // Promise 17: "INVALID: .. no STEPS"
    private static void stepsNoSteps() {
        QueuesAndGates x = withProcesses(3);
        due("set", x.set(1, 1, 2, 512 + 0700), 0);
        due("none", x.steps(1, 0), INVALID);
        due("RESULT", x.result(1), INVALID);
        due("ahead of ACCESS", x.steps(2, 0), INVALID);
        due("refused ones are none", x.step(1, 8, 1, 0), OUTSIDE);
        due("none", x.steps(1, 0), INVALID);
        due("another's are none", x.step(2, 0, 1, 0), 1);
        due("none", x.steps(1, 0), INVALID);
        due("none waits", x.count(2), 0);
    }

    // Promise 17: "INVALID: .. a COUNTER that it has not"
    private static void stepsNoCounter() {
        QueuesAndGates x = withProcesses(3);
        for (int n = 1; n <= 8; n++) {
            due("set", x.set(1, n, n, 512 + 0700), n - 1);
            if (n < 8) {
                due("one beyond", stepped(x, 1, n - 1, n, 0, 0), INVALID);
                due("ahead of ACCESS", stepped(x, 2, n - 1, n, 0, 0), INVALID);
            }
            due("the last", stepped(x, 1, n - 1, n - 1, 1, 0), 0);
            due("ACCESS", stepped(x, 2, n - 1, n - 1, 1, 0), ACCESS);
        }
        x.step(1, 0, 1, 0);
        x.step(1, 2, 1, 0);
        x.step(1, 1, 1, 0);
        due("one of three, in the midst", x.steps(1, 1), INVALID);
        x.step(1, 0, TOP, 0);
        x.step(1, 0, TOP, 0);
        x.step(1, 7, 1, 0);
        due("ahead of RANGE", x.steps(1, 1), INVALID);
        x.step(1, 0, -1, 1);
        x.step(1, 2, 1, 0);
        due("ahead of AGAIN", x.steps(1, 1), INVALID);
        due("nothing is done", x.counter(1, 0, 0), 0);
        due("RESULT", x.result(1), INVALID);
    }

    // Promise 17: "ACCESS (2, if a CHANGE is not 0, else 4)"
    private static void stepsAccess() {
        QueuesAndGates x = withProcesses(3);
        due("set", x.set(0, 1, 2, 512), 0);
        for (int may = 0; may < 8; may++) {
            int writes = (may & 2) != 0 ? 0 : ACCESS;
            int reads = (may & 4) != 0 ? 0 : ACCESS;
            due("own", x.own(0, 1, 0, 0, 0, may), 0);
            due("up by " + may, stepped(x, 1, 0, 0, 1, 0), writes);
            due("down by " + may, stepped(x, 1, 0, 0, -1, 0), writes);
            due("0 by " + may, stepped(x, 1, 0, 0, 0, 0), reads);
            x.step(1, 0, 0, 0);
            x.step(1, 1, 0, 0);
            due("0 twice by " + may, x.steps(1, 0), reads);
            x.step(1, 0, 0, 0);
            x.step(1, 1, 1, 0);
            x.step(1, 1, -1, 0);
            due("0 and others by " + may, x.steps(1, 0), writes);
        }
        due("own", x.own(0, 1, 0, 0, 0, 0), 0);
        due("RANGE is behind", x.step(1, 0, TOP, 0), 1);
        due("RANGE is behind", x.step(1, 0, 1, 0), 2);
        due("RANGE is behind", x.steps(1, 0), ACCESS);
        due("AGAIN is behind", stepped(x, 1, 0, 0, -1, 1), ACCESS);
        due("PENDING is behind", stepped(x, 1, 0, 0, -1, 0), ACCESS);
        due("RESULT", x.result(1), ACCESS);
        due("user 0", stepped(x, 0, 0, 0, 1, 0), 0);
    }

    // Promise 17: "RANGE"
    private static void stepsRange() {
        QueuesAndGates x = withSet();
        due("up", stepped(x, 1, 0, 0, TOP, 0), 0);
        due("beyond", stepped(x, 1, 0, 0, 1, 0), RANGE);
        due("RESULT", x.result(1), RANGE);
        due("beyond by NOWAIT, too", stepped(x, 1, 0, 0, 1, 1), RANGE);
        due("it does not wait", x.count(2), 0);
    }

    // Promise 17: "AGAIN: the one that STOPS is NOWAIT"
    private static void stepsAgain() {
        QueuesAndGates x = withSet();
        x.step(1, 0, 1, 1);
        x.step(1, 0, -2, 0);
        due("another is", x.steps(1, 0), PENDING);
        due("signal", x.signal(1), 1);
        x.step(1, 0, -1, 0);
        x.step(1, 0, -2, 1);
        due("a later one is", x.steps(1, 0), PENDING);
        due("signal", x.signal(1), 1);
        x.step(1, 0, 1, 0);
        x.step(1, 0, -2, 1);
        x.step(1, 0, -2, 0);
        due("it is", x.steps(1, 0), AGAIN);
        due("RESULT", x.result(1), AGAIN);
        due("none waits", x.count(2), 0);
        due("value", x.counter(0, 0, 0), 0);
    }

    // Promise 17: "or it WAITS: PENDING"
    private static void stepsWait() {
        QueuesAndGates x = withSet();
        due("waits", stepped(x, 1, 0, 1, -1, 0), PENDING);
        due("RESULT", x.result(1), PENDING);
        due("one waits", x.setOf(0, 8), 1);
        due("of all", x.count(2), 1);
        due("for it to grow", x.counter(0, 1, 2), 1);
        due("it may not", x.steps(1, 0), NOT);
        due("RESULT stays", x.result(1), PENDING);
    }

    // Promise 18: "OUTSIDE: v"
    private static void valueBounds() {
        QueuesAndGates x = withSet();
        for (int v : new int[] {-1, 32768, 65536, Integer.MIN_VALUE, Integer.MAX_VALUE}) {
            due("v " + v, x.value(1, 0, 0, v), OUTSIDE);
            due("ahead of INVALID", x.value(1, 1, 0, v), OUTSIDE);
            due("ahead of INVALID", x.value(1, 0, 3, v), OUTSIDE);
        }
        due("RESULT", x.result(1), OUTSIDE);
        due("value", x.counter(0, 0, 0), 0);
        due("last", x.counter(0, 0, 1), NONE);
        due("greatest", x.value(1, 0, 0, TOP), 0);
        due("value", x.counter(0, 0, 0), TOP);
        due("least", x.value(1, 0, 0, 0), 0);
        due("value", x.counter(0, 0, 0), 0);
    }

    // Promise 18: "INVALID"
    private static void valueNoId() {
        QueuesAndGates x = withSet();
        due("queue", x.queue(0, 1, 1023), 0);
        due("queue", x.queue(0, 2, 1023), 1);
        for (int id : NO_IDS) {
            due("id " + id, x.value(1, id, 0, 5), INVALID);
        }
        due("RESULT", x.result(1), INVALID);
        due("value", x.counter(0, 0, 0), 0);
    }

    // Promise 18: "INVALID: also no COUNTER"
    private static void valueNoCounter() {
        QueuesAndGates x = withProcesses(3);
        for (int n = 1; n <= 8; n++) {
            due("set", x.set(1, n, n, 512 + 0700), n - 1);
            due("the last", x.value(1, n - 1, n - 1, 5), 0);
            due("one beyond", x.value(1, n - 1, n, 5), INVALID);
            due("one before the first", x.value(1, n - 1, -1, 5), INVALID);
            due("ahead of ACCESS", x.value(2, n - 1, n, 5), INVALID);
            due("ACCESS", x.value(2, n - 1, n - 1, 5), ACCESS);
        }
        due("least int", x.value(1, 7, Integer.MIN_VALUE, 5), INVALID);
        due("greatest int", x.value(1, 7, Integer.MAX_VALUE, 5), INVALID);
        due("RESULT", x.result(1), INVALID);
    }

    // Promise 18: "ACCESS (2)"
    private static void valueAccess() {
        QueuesAndGates x = withProcesses(3);
        due("set", x.set(0, 1, 2, 512), 0);
        for (int may = 0; may < 8; may++) {
            boolean writes = (may & 2) != 0;
            due("own", x.own(0, 1, 0, 0, 0, may), 0);
            due("back", x.value(0, 0, 1, 0), 0);
            due("by " + may, x.value(1, 0, 1, 5), writes ? 0 : ACCESS);
            due("value", x.counter(0, 1, 0), writes ? 5 : 0);
            due("last", x.counter(0, 1, 1), writes ? 1 : 0);
            due("RESULT", x.result(1), writes ? 0 : ACCESS);
        }
    }

    // Promise 18: "UNDOES of it (of all PROCESSES) are 0, LAST is p"
    private static void valueClearsUndoes() {
        QueuesAndGates x = withSet();
        for (int p = 0; p < 16; p++) {
            x.step(p, 0, 2, 2);
            x.step(p, 1, 3, 2);
            due("undo", x.steps(p, 0), 0);
        }
        due("value", x.value(7, 0, 0, 5), 0);
        for (int p = 0; p < 16; p++) {
            due("of all", x.undo(p, 0, 0), 0);
            due("of it alone", x.undo(p, 0, 1), -3);
        }
        due("last", x.counter(0, 0, 1), 7);
        due("of the other", x.counter(0, 1, 1), 15);
        due("exit", x.exit(3), 1);
        due("nothing to undo", x.counter(0, 0, 0), 5);
        due("but of the other", x.counter(0, 1, 0), 45);
        due("set to the value that it has", x.value(8, 0, 1, 45), 0);
        due("of all", x.undo(15, 0, 1), 0);
        due("last", x.counter(0, 1, 1), 8);
    }

    // Promise 18: "the SET is SERVED, if it changed"
    private static void valueServes() {
        QueuesAndGates x = withSet();
        due("waits for 2", stepped(x, 1, 0, 0, -2, 0), PENDING);
        due("waits for 2, too", stepped(x, 2, 0, 0, -2, 0), PENDING);
        due("waits on another", stepped(x, 3, 0, 1, -2, 0), PENDING);
        due("1", x.value(0, 0, 0, 1), 0);
        due("too few", x.result(1), PENDING);
        due("3", x.value(0, 0, 0, 3), 0);
        due("enough", x.result(1), 0);
        due("for one", x.result(2), PENDING);
        due("what is left", x.counter(0, 0, 0), 1);
        due("RESULT", x.result(0), 0);
        due("waits for 0", stepped(x, 4, 0, 0, 0, 0), PENDING);
        due("0", x.value(0, 0, 0, 0), 0);
        due("it is 0", x.result(4), 0);
        due("of the other", x.result(3), PENDING);
    }

    // Promise 18: "UNDOES of it (of all PROCESSES) are 0, LAST is p; the SET is SERVED": in this order
    private static void valueServesBehindAll() {
        QueuesAndGates x = withSet();
        due("undo", stepped(x, 1, 0, 0, 3, 2), 0);
        due("waits", stepped(x, 1, 0, 0, -4, 2), PENDING);
        due("value", x.value(2, 0, 0, 9), 0);
        due("served", x.result(1), 0);
        due("its undo is of what it was served with", x.undo(1, 0, 0), 4);
        due("it is the last", x.counter(0, 0, 1), 1);
        due("value", x.counter(0, 0, 0), 5);
    }

    // Promise 18: "if it changed": the VALUE that it has serves none
    private static void valueThatItHas() {
        QueuesAndGates x = withSet();
        due("waits", stepped(x, 1, 0, 0, -2, 0), PENDING);
        due("up", stepped(x, 0, 0, 0, 1, 0), 0);
        due("the value that it has", x.value(2, 0, 0, 1), 0);
        due("last", x.counter(0, 0, 1), 2);
        due("waits on", x.result(1), PENDING);
        due("value", x.counter(0, 0, 0), 1);
    }
}

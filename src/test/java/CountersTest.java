/** Promises 16 to 18, with part 3 of the terms: steps on counters, and values put. */
public final class CountersTest extends Check {
    public static void main(String[] args) {
        step();
        stepsRefused();
        stepsAreNoneAnyMore();
        stepsAllOrNone();
        stepsOnWhatOthersLeft();
        stepsWithUndo();
        stepsNoWait();
        servedInTurn();
        servedAnew();
        servedOnlyByOtherValues();
        servedOnlyIfAValueIsAnother();
        manyServed();
        servedRange();
        servedNoWaitStays();
        value();
        valueServes();
        end();
    }

    // promise 16
    private static void step() {
        QueuesAndGates x = withProcesses(3);
        due("unknown", x.step(3, 0, 0, 0), UNKNOWN);
        due("unknown", x.step(-1, 9, 0, 0), UNKNOWN);
        due("counter", x.step(1, -1, 0, 0), OUTSIDE);
        due("counter", x.step(1, 8, 0, 0), OUTSIDE);
        due("change", x.step(1, 0, 32768, 0), OUTSIDE);
        due("change", x.step(1, 0, -32768, 0), OUTSIDE);
        due("change", x.step(1, 0, Integer.MIN_VALUE, 0), OUTSIDE);
        due("way", x.step(1, 0, 0, -1), OUTSIDE);
        due("way", x.step(1, 0, 0, 4), OUTSIDE);
        due("change", x.step(1, 7, 32767, 3), 1);
        due("change", x.step(1, 7, -32767, 3), 2);
        for (int i = 3; i <= 8; i++) {
            due("step", x.step(1, 0, 0, 0), i);
        }
        due("full", x.step(1, 0, 0, 0), FULL);
        due("OUTSIDE ahead of FULL", x.step(1, 8, 0, 0), OUTSIDE);
        due("of the other", x.step(2, 0, 0, 0), 1);
        due("no RESULT", x.result(1), 0);
        due("set", x.set(0, 0, 8, 511), 0);
        due("all eight", x.steps(1, 0), 0);
        due("from 1 on again", x.step(1, 0, -1, 0), 1);
        due("waits", x.steps(1, 0), PENDING);
        due("not as it waits", x.step(1, 0, 0, 0), NOT);
        due("RESULT stays", x.result(1), PENDING);
        due("signal", x.signal(1), 1);
        due("from 1 on again", x.step(1, 0, 0, 0), 1);
        due("exit", x.exit(1), 1);
        due("not after its end", x.step(1, 0, 0, 0), NOT);
    }

    // promise 17
    private static void stepsRefused() {
        QueuesAndGates x = withProcesses(4);
        due("set", x.set(1, 1, 2, 512 + 0642), 0);
        due("unknown", x.steps(4, 0), UNKNOWN);
        due("no steps", x.steps(1, 0), INVALID);
        due("result", x.result(1), INVALID);
        due("no id", stepped(x, 1, 1, 0, 1, 0), INVALID);
        due("no id", stepped(x, 1, 12, 0, 1, 0), INVALID);
        due("no id", stepped(x, 1, -1, 0, 1, 0), INVALID);
        due("no counter", stepped(x, 1, 0, 2, 1, 0), INVALID);
        due("no counter, ahead of ACCESS", stepped(x, 3, 0, 2, 0, 0), INVALID);
        due("others write", stepped(x, 3, 0, 1, 1, 0), 0);
        due("others do not read", stepped(x, 3, 0, 0, 0, 0), ACCESS);
        due("step", x.step(3, 0, 0, 0), 1);
        due("step", x.step(3, 1, 1, 0), 2);
        due("to write is enough", x.steps(3, 0), 0);
        due("own", x.own(1, 1, 0, 1, 1, 0604), 0);
        due("others read", stepped(x, 3, 0, 0, 0, 0), 0);
        due("others do not write", stepped(x, 3, 0, 0, 1, 0), ACCESS);
        due("step", x.step(3, 0, 0, 0), 1);
        due("step", x.step(3, 1, -1, 0), 2);
        due("others do not write", x.steps(3, 0), ACCESS);
        due("result", x.result(3), ACCESS);
        due("user 0", stepped(x, 0, 0, 0, 1, 0), 0);
    }

    private static void stepsAreNoneAnyMore() {
        QueuesAndGates x = withProcesses(3);
        due("set", x.set(1, 1, 1, 512 + 0600), 0);
        due("step", x.step(1, 0, 1, 0), 1);
        due("no id", x.steps(1, 5), INVALID);
        due("none any more", x.steps(1, 0), INVALID);
        due("step", x.step(1, 0, 1, 0), 1);
        due("done", x.steps(1, 0), 0);
        due("none any more", x.steps(1, 0), INVALID);
        due("step", x.step(2, 0, 1, 0), 1);
        due("access", x.steps(2, 0), ACCESS);
        due("none any more", x.step(2, 0, 1, 0), 1);
        due("step", x.step(1, 0, 32767, 0), 1);
        due("range", x.steps(1, 0), RANGE);
        due("none any more", x.steps(1, 0), INVALID);
        due("step", x.step(1, 0, -2, 1), 1);
        due("again", x.steps(1, 0), AGAIN);
        due("none any more", x.steps(1, 0), INVALID);
        due("step", x.step(1, 0, -2, 0), 1);
        due("waits", x.steps(1, 0), PENDING);
        due("not as it waits", x.steps(1, 0), NOT);
        due("value", x.value(0, 0, 0, 3), 0);
        due("it went on with its steps", x.result(1), 0);
        due("value", x.counter(0, 0, 0), 1);
        due("none any more", x.steps(1, 0), INVALID);
    }

    private static void stepsAllOrNone() {
        QueuesAndGates x = withProcesses(3);
        due("set", x.set(1, 1, 3, 512 + 0666), 0);
        x.step(1, 0, 5, 2);
        x.step(1, 1, 0, 0);
        due("done", x.steps(1, 0), 0);
        due("last of a change of 0, too", x.counter(0, 1, 1), 1);
        due("last of none", x.counter(0, 2, 1), NONE);
        x.step(2, 0, -5, 2);
        x.step(2, 1, 1, 0);
        x.step(2, 2, -1, 1);
        due("again", x.steps(2, 0), AGAIN);
        due("as before", x.counter(0, 0, 0), 5);
        due("as before", x.counter(0, 0, 1), 1);
        due("as before", x.counter(0, 1, 0), 0);
        due("as before", x.undo(2, 0, 0), 0);
        x.step(2, 0, 32762, 0);
        x.step(2, 0, 1, 0);
        due("range", x.steps(2, 0), RANGE);
        due("result", x.result(2), RANGE);
        due("as before", x.counter(0, 0, 0), 5);
        due("32767", stepped(x, 2, 0, 0, 32762, 0), 0);
        due("value", x.counter(0, 0, 0), 32767);
        due("to 0", stepped(x, 2, 0, 0, -32767, 0), 0);
        due("value", x.counter(0, 0, 0), 0);
    }

    private static void stepsOnWhatOthersLeft() {
        QueuesAndGates x = withProcesses(3);
        due("set", x.set(1, 1, 2, 512 + 0666), 0);
        x.step(1, 0, 0, 1);
        x.step(1, 0, 1, 0);
        x.step(1, 0, -1, 1);
        x.step(1, 0, 0, 1);
        x.step(1, 0, 2, 0);
        due("one by one", x.steps(1, 0), 0);
        due("value", x.counter(0, 0, 0), 2);
        x.step(1, 0, 1, 0);
        x.step(1, 0, 0, 1);
        due("not 0 behind the first", x.steps(1, 0), AGAIN);
        x.step(1, 0, -3, 1);
        x.step(1, 0, 5, 0);
        due("the first stops", x.steps(1, 0), AGAIN);
        x.step(1, 0, 32766, 0);
        x.step(1, 0, -9, 1);
        due("the first is beyond", x.steps(1, 0), RANGE);
    }

    private static void stepsWithUndo() {
        QueuesAndGates x = withProcesses(3);
        due("set", x.set(1, 1, 2, 512 + 0666), 0);
        due("steps", stepped(x, 1, 0, 0, 32767, 2), 0);
        due("undo", x.undo(1, 0, 0), -32767);
        due("steps", stepped(x, 1, 0, 0, -1, 0), 0);
        due("undo stays", x.undo(1, 0, 0), -32767);
        due("beyond", stepped(x, 1, 0, 0, 1, 2), RANGE);
        due("value stays", x.counter(0, 0, 0), 32766);
        due("of another", stepped(x, 2, 0, 0, 1, 2), 0);
        due("undo", x.undo(2, 0, 0), -1);
        due("back", stepped(x, 1, 0, 0, -32767, 2), 0);
        due("undo", x.undo(1, 0, 0), 0);
        due("steps", stepped(x, 1, 0, 0, 32767, 0), 0);
        due("steps", stepped(x, 1, 0, 0, -32767, 2), 0);
        due("undo", x.undo(1, 0, 0), 32767);
        due("steps", stepped(x, 1, 0, 0, 2, 0), 0);
        due("beyond", stepped(x, 1, 0, 0, -1, 2), RANGE);
        due("a stop goes ahead", stepped(x, 1, 0, 0, -3, 3), AGAIN);
        x.step(1, 1, 3, 2);
        x.step(1, 1, 4, 0);
        x.step(1, 1, -2, 2);
        due("each with undo", x.steps(1, 0), 0);
        due("undo", x.undo(1, 0, 1), -1);
        due("value", x.counter(0, 1, 0), 5);
        due("a change of 0 with undo", stepped(x, 1, 0, 1, 0, 3), AGAIN);
        due("undo", x.undo(1, 0, 1), -1);
    }

    private static void stepsNoWait() {
        QueuesAndGates x = withProcesses(3);
        due("set", x.set(1, 1, 2, 512 + 0666), 0);
        x.step(1, 0, -1, 0);
        x.step(1, 1, -1, 1);
        due("the one that stops has no NOWAIT", x.steps(1, 0), PENDING);
        x.step(2, 1, 0, 1);
        x.step(2, 0, -1, 1);
        due("the one that stops has", x.steps(2, 0), AGAIN);
        due("result", x.result(2), AGAIN);
        due("signal", x.signal(1), 1);
        due("result", x.result(1), CUTOFF);
        due("waiting", x.setOf(0, 8), 0);
    }

    private static void servedInTurn() {
        QueuesAndGates x = withProcesses(6);
        due("set", x.set(0, 1, 2, 1023), 0);
        due("steps", stepped(x, 5, 0, 0, -3, 0), PENDING);
        due("steps", stepped(x, 3, 0, 0, -1, 2), PENDING);
        due("steps", stepped(x, 4, 0, 0, -1, 0), PENDING);
        due("steps", stepped(x, 2, 0, 1, 0, 0), 0);
        due("waiting", x.setOf(0, 8), 3);
        due("to grow", x.counter(0, 0, 2), 3);
        due("to be 0", x.counter(0, 0, 3), 0);
        due("steps", stepped(x, 1, 0, 0, 1, 0), 0);
        due("3 are too many", x.result(5), PENDING);
        due("the next", x.result(3), 0);
        due("last", x.counter(0, 0, 1), 3);
        due("undo", x.undo(3, 0, 0), 1);
        due("the one behind", x.result(4), PENDING);
        due("value", x.counter(0, 0, 0), 0);
        due("steps", stepped(x, 1, 0, 0, 4, 0), 0);
        due("the first", x.result(5), 0);
        due("the one behind", x.result(4), 0);
        due("value", x.counter(0, 0, 0), 0);
        due("waiting", x.setOf(0, 8), 0);
    }

    private static void servedAnew() {
        QueuesAndGates x = withProcesses(6);
        due("set", x.set(0, 1, 2, 1023), 0);
        due("waits for 1", stepped(x, 1, 0, 1, -1, 0), PENDING);
        x.step(2, 0, -1, 0);
        x.step(2, 1, 1, 0);
        due("waits for 0, then gives 1", x.steps(2, 0), PENDING);
        due("waits for 1", stepped(x, 3, 0, 1, -1, 0), PENDING);
        due("steps", stepped(x, 4, 0, 0, 1, 0), 0);
        due("the first again, ahead of the third", x.result(1), 0);
        due("the second", x.result(2), 0);
        due("the third", x.result(3), PENDING);
        due("the last", x.counter(0, 1, 1), 1);
        x.step(1, 0, -1, 0);
        x.step(1, 1, -1, 0);
        due("stops at the first", x.steps(1, 0), PENDING);
        due("to grow", x.counter(0, 0, 2), 1);
        due("to grow", x.counter(0, 1, 2), 1);
        due("steps", stepped(x, 4, 0, 0, 1, 0), 0);
        due("stops at the second now", x.counter(0, 0, 2), 0);
        due("stops at the second now", x.counter(0, 1, 2), 2);
        due("steps", stepped(x, 4, 0, 1, 2, 0), 0);
        due("both", x.result(1), 0);
        due("both", x.result(3), 0);
    }

    private static void servedOnlyByOtherValues() {
        QueuesAndGates x = withProcesses(6);
        due("set", x.set(0, 1, 2, 1023), 0);
        due("value", x.value(0, 0, 0, 5), 0);
        due("waits to be 0", stepped(x, 1, 0, 0, 0, 0), PENDING);
        x.step(2, 0, -5, 0);
        x.step(2, 0, 0, 0);
        x.step(2, 0, 5, 0);
        due("through 0, and back", x.steps(2, 0), 0);
        due("to be 0", x.counter(0, 0, 3), 1);
        due("to grow", x.counter(0, 0, 2), 0);
        due("waits still", x.result(1), PENDING);
        due("to 0", stepped(x, 2, 0, 0, -5, 0), 0);
        due("goes on", x.result(1), 0);
        due("last", x.counter(0, 0, 1), 1);
    }

    /** One whose UNDO was put to 0 as it waits would be RANGE, were it tried; but no VALUE is another at first. */
    private static void servedOnlyIfAValueIsAnother() {
        QueuesAndGates x = withProcesses(5);
        due("set", x.set(0, 1, 3, 1023), 0);
        due("value", x.value(0, 0, 0, 30000), 0);
        due("undo 30000", stepped(x, 1, 0, 0, -30000, 2), 0);
        x.step(3, 2, 5, 2);
        due("to be undone", x.steps(3, 0), 0);
        due("from elsewhere", stepped(x, 4, 0, 2, -5, 0), 0);
        x.step(1, 0, 20000, 2);
        x.step(1, 0, -20000, 0);
        x.step(1, 0, 20000, 2);
        x.step(1, 0, -20000, 0);
        x.step(1, 1, -1, 0);
        due("waits", x.steps(1, 0), PENDING);
        due("the value that it has", x.value(0, 0, 0, 0), 0);
        due("undo", x.undo(1, 0, 0), 0);
        due("not served", x.result(1), PENDING);
        x.step(2, 1, 1, 0);
        x.step(2, 1, -1, 0);
        due("up and down", x.steps(2, 0), 0);
        due("not served", x.result(1), PENDING);
        due("exit", x.exit(3), 1);
        due("held at 0", x.counter(0, 2, 1), 3);
        due("not served", x.result(1), PENDING);
        due("another value", stepped(x, 2, 0, 2, 1, 0), 0);
        due("served", x.result(1), RANGE);
    }

    private static void manyServed() {
        QueuesAndGates x = withProcesses(16);
        due("set", x.set(0, 1, 2, 1023), 0);
        for (int p = 1; p < 16; p++) {
            due("waits", stepped(x, p, 0, 0, p - 17, 0), PENDING);
        }
        due("count(2)", x.count(2), 15);
        due("the last alone", x.value(0, 0, 0, 2), 0);
        due("the last alone", x.result(15), 0);
        due("the others", x.count(2), 14);
        due("all of them", x.value(0, 0, 0, 32767), 0);
        due("all of them", x.count(2), 0);
        due("value", x.counter(0, 0, 0), 32767 - 133);
        due("last", x.counter(0, 0, 1), 14);
    }

    private static void servedRange() {
        QueuesAndGates x = withProcesses(6);
        due("set", x.set(0, 1, 2, 1023), 0);
        due("value", x.value(0, 0, 1, 32767), 0);
        x.step(1, 0, -1, 0);
        x.step(1, 1, 1, 0);
        due("waits", x.steps(1, 0), PENDING);
        due("waits", stepped(x, 2, 0, 0, -1, 0), PENDING);
        due("steps", stepped(x, 3, 0, 0, 1, 0), 0);
        due("beyond", x.result(1), RANGE);
        due("the next has it", x.result(2), 0);
        due("value", x.counter(0, 1, 0), 32767);
        due("last", x.counter(0, 1, 1), 0);
        due("count(2)", x.count(2), 0);
    }

    private static void servedNoWaitStays() {
        QueuesAndGates x = withProcesses(6);
        due("set", x.set(0, 1, 2, 1023), 0);
        x.step(1, 0, -1, 0);
        x.step(1, 1, -1, 1);
        due("waits", x.steps(1, 0), PENDING);
        due("steps", stepped(x, 3, 0, 0, 1, 0), 0);
        due("waits still, at the step with NOWAIT", x.result(1), PENDING);
        due("to grow", x.counter(0, 1, 2), 1);
        due("steps", stepped(x, 3, 0, 1, 1, 0), 0);
        due("goes on", x.result(1), 0);
    }

    // promise 18
    private static void value() {
        QueuesAndGates x = withProcesses(4);
        due("set", x.set(1, 1, 2, 512 + 0604), 0);
        due("unknown", x.value(4, 0, 0, 0), UNKNOWN);
        due("v", x.value(1, 0, 0, -1), OUTSIDE);
        due("v", x.value(1, 0, 0, 32768), OUTSIDE);
        due("OUTSIDE ahead of INVALID", x.value(1, 3, 9, -1), OUTSIDE);
        due("no id", x.value(1, 1, 0, 0), INVALID);
        due("no counter", x.value(1, 0, 2, 0), INVALID);
        due("no counter", x.value(1, 0, -1, 0), INVALID);
        due("no counter, ahead of ACCESS", x.value(2, 0, 8, 0), INVALID);
        due("reads alone", x.value(2, 0, 0, 0), ACCESS);
        due("result", x.result(2), ACCESS);
        due("steps", stepped(x, 1, 0, 0, 4, 2), 0);
        due("steps", stepped(x, 1, 0, 1, 5, 2), 0);
        due("steps", stepped(x, 0, 0, 0, 6, 2), 0);
        due("own", x.own(1, 1, 0, 1, 1, 0602), 0);
        due("others write", x.value(2, 0, 0, 32767), 0);
        due("result", x.result(2), 0);
        due("value", x.counter(0, 0, 0), 32767);
        due("last", x.counter(0, 0, 1), 2);
        due("undo of all", x.undo(1, 0, 0), 0);
        due("undo of all", x.undo(0, 0, 0), 0);
        due("of the other counter", x.undo(1, 0, 1), -5);
        due("last of the other", x.counter(0, 1, 1), 1);
        due("the value it has", x.value(1, 0, 0, 32767), 0);
        due("last", x.counter(0, 0, 1), 1);
    }

    private static void valueServes() {
        QueuesAndGates x = withProcesses(6);
        due("set", x.set(0, 1, 2, 1023), 0);
        due("waits", stepped(x, 1, 0, 0, -4, 0), PENDING);
        due("waits", stepped(x, 2, 0, 0, -2, 0), PENDING);
        due("waits", stepped(x, 3, 0, 1, -1, 0), PENDING);
        due("value", x.value(4, 0, 0, 3), 0);
        due("too few", x.result(1), PENDING);
        due("the second", x.result(2), 0);
        due("last", x.counter(0, 0, 1), 2);
        due("value", x.counter(0, 0, 0), 1);
        due("value", x.value(4, 0, 0, 4), 0);
        due("the first", x.result(1), 0);
        due("value", x.counter(0, 0, 0), 0);
        due("of the other counter", x.result(3), PENDING);
        due("value", x.value(4, 0, 1, 2), 0);
        due("of the other counter", x.result(3), 0);
    }
}

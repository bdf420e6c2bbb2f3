/** The example of README.md, call by call: what its comments tell is what the calls answer. */
public final class ReadmeTest extends Check {
    public static void main(String[] args) {
        QueuesAndGates x = new QueuesAndGates();
        int alice = x.process(1, 1);
        due("alice", alice, 0);
        int bob = x.process(2, 1);
        due("bob", bob, 1);
        messages(x, alice, bob);
        counters(x, alice, bob);
        end();
    }

    private static void messages(QueuesAndGates x, int alice, int bob) {
        int queue = x.queue(alice, 77, 512 + 0660);
        due("queue", queue, 0);
        due("take", x.take(bob, queue, 64, 0, 0), PENDING);
        due("area", x.area(alice, 0, 65), 0);
        due("send", x.send(alice, queue, 5, 1, true), 0);
        due("result", x.result(bob), 1);
        due("taken", x.taken(bob), 5);
        due("areaAt", x.areaAt(bob, 0), 65);
    }

    private static void counters(QueuesAndGates x, int alice, int bob) {
        int set = x.set(alice, 77, 1, 512 + 0660);
        due("set", set, 0);
        due("step", x.step(bob, 0, -2, 0), 1);
        due("steps", x.steps(bob, set), PENDING);
        due("counter", x.counter(0, 0, 2), 1);
        due("step", x.step(alice, 0, 3, 2), 1);
        due("steps", x.steps(alice, set), 0);
        due("result", x.result(bob), 0);
        due("counter", x.counter(0, 0, 0), 1);
        due("exit", x.exit(alice), 1);
        due("counter", x.counter(0, 0, 0), 0);
    }
}

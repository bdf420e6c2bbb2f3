/** What the tests share: each answer is held against the one that is due. */
class Check {
    static final int NONE = -1, UNKNOWN = -2, NOT = -3, OUTSIDE = -4, INVALID = -5, ACCESS = -6, EXISTS = -7, ABSENT = -8;
    static final int FULL = -9, PENDING = -10, AGAIN = -11, NOMESSAGE = -12, TOOBIG = -13, GONE = -14, RANGE = -15, CUTOFF = -16;

    private static int wrong = 0;
    private static int asked = 0;

    static void due(String call, long got, long want) {
        asked++;
        if (got != want) {
            wrong++;
            StackTraceElement where = new Throwable().getStackTrace()[1];
            System.out.println(where.getFileName() + ":" + where.getLineNumber() + ": " + call + " answered " + got + ", due is " + want);
        }
    }

    /** Ends the test, with exit code 1 if an answer was wrong. */
    static void end() {
        System.out.println(asked + " answers, " + wrong + " of them not as due");
        if (wrong != 0) {
            System.exit(1);
        }
    }

    /** An object with processes of users 0, 1, 2, .. of groups 0, 10, 20, .. */
    static QueuesAndGates withProcesses(int many) {
        QueuesAndGates x = new QueuesAndGates();
        for (int p = 0; p < many; p++) {
            due("process", x.process(p, p * 5), p);
        }
        return x;
    }

    /** One more message of a type with n bytes, all of them b, sent by p without waiting. */
    static void sent(QueuesAndGates x, int p, int id, long type, int n, int b, int want) {
        for (int i = 0; i < n; i++) {
            x.area(p, i, b);
        }
        due("send of " + type, x.send(p, id, type, n, true), want);
    }

    /** One step alone on a set. */
    static int stepped(QueuesAndGates x, int p, int id, int counter, int change, int way) {
        x.step(p, counter, change, way);
        return x.steps(p, id);
    }
}

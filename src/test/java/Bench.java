/** An object under test, the checks on it, and the runs of calls that many tests begin with. */
abstract class Bench {
    static final int NONE = AbsentMeansAbort.NONE;
    static final int BAD = AbsentMeansAbort.BAD;
    static final int DOWN = AbsentMeansAbort.DOWN;
    static final int LATE = AbsentMeansAbort.LATE;
    static final int FULL = AbsentMeansAbort.FULL;

    static final int NOTHING = 0;
    static final int WORKING = 1;
    static final int REFUSED = 2;
    static final int PREPARED = 3;

    static final int OPEN = 1;
    static final int COLLECTING = 2;
    static final int COMMITTING = 3;

    static final int PREPARE = 1;
    static final int YES = 2;
    static final int READ = 3;
    static final int NO = 4;
    static final int COMMIT = 5;
    static final int ABORT = 6;
    static final int ACK = 7;
    static final int INQUIRY = 8;

    /** Too small, too large, and those that a shift or a mask would take for a number that there is. */
    static final int[] NO_NODE =
            {-1, -2, -3, -4, 4, 5, 32, 35, -32, -29, 256, 65536, Integer.MIN_VALUE, Integer.MAX_VALUE};
    static final int[] NO_RESOURCE =
            {-2, -3, -8, 8, 9, 32, 39, -32, -25, 256, 65536, Integer.MIN_VALUE, Integer.MAX_VALUE};
    static final int[] NO_NUMBER =
            {-1, -2, -10, 40, 41, 60, 64, 256, 65536, Integer.MIN_VALUE, Integer.MAX_VALUE};

    final Checks check = new Checks();
    AbsentMeansAbort x;

    final void fresh(String topic) {
        check.about(topic);
        x = new AbsentMeansAbort();
    }

    final void run(String... calls) {
        for (String call : calls) {
            Calls.answer(x, call);
        }
    }

    final void due(String call, int want) {
        check.due(call, Calls.answer(x, call), want);
    }

    /** The answer is a refusal, and nothing that can be asked is another than before. */
    final void refused(String call, int want) {
        String before = Snapshot.of(x);
        due(call, want);
        check.due("what is asked after " + call, Snapshot.of(x), before);
    }

    final void dueMessage(int k, int kind, int sender, int receiver, int t) {
        due("message(" + k + ", 0)", kind);
        due("message(" + k + ", 1)", sender);
        due("message(" + k + ", 2)", receiver);
        due("message(" + k + ", 3)", t);
    }

    final void dueRecord(int node, int k, int entry, int content) {
        due("entry(" + node + ", " + k + ")", entry);
        due("content(" + node + ", " + k + ")", content);
    }

    final void dueRecords(int node, int all, int safe) {
        due("records(" + node + ", false)", all);
        due("records(" + node + ", true)", safe);
    }

    final void dueSets(int t, int members, int yes, int read, int due) {
        due("nodes(" + t + ", 0)", members);
        due("nodes(" + t + ", 1)", yes);
        due("nodes(" + t + ", 2)", read);
        due("nodes(" + t + ", 3)", due);
    }

    final void dueForgotten(int t) {
        due("stage(" + t + ")", NOTHING);
        dueSets(t, 0, 0, 0, 0);
    }

    final void dueLetGo(int node, int t) {
        due("state(" + node + ", " + t + ")", NOTHING);
        for (int r = 0; r < 8; r++) {
            check.due("that holder(" + node + ", " + r + ") is " + t, x.holder(node, r) == t, false);
        }
    }

    final void deliverFirst(int times) {
        for (int i = 0; i < times; i++) {
            x.deliver(0);
        }
    }

    /** Transaction 0 of coordinator 0 holds resource 5 at nodes 1 and 2, and both have said YES. */
    final void decided() {
        run("begin(0)", "work(0, 1, 5)", "work(0, 2, 5)", "commit(0)");
        deliverFirst(4);
    }

    /** Transaction 0 is prepared at node 3, its coordinator, and asks itself until so many messages are there. */
    final void fillRowTo(int count) {
        for (int tries = 0; tries < 40 && x.messages() < count; tries++) {
            run("expire(3, 0, true)");
        }
        due("messages()", count);
    }

    /** What fillRowTo needs; no message is there after it. */
    final void prepareToFill() {
        run("begin(3)", "work(0, 3, 0)", "commit(0)", "deliver(0)", "lose(0)");
        due("state(3, 0)", PREPARED);
        due("messages()", 0);
    }
}

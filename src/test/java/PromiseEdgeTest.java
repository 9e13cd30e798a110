/** For each sentence of the document's promises 1 to 21 that names a boundary, a test of its own. */
public final class PromiseEdgeTest extends Bench {
    public static void main(String[] args) {
        PromiseEdgeTest test = new PromiseEdgeTest();
        test.newObject();
        test.begin();
        test.work();
        test.commit();
        test.withdraw();
        test.deliver();
        test.lose();
        test.expire();
        test.crash();
        test.recover();
        test.up();
        test.stage();
        test.nodes();
        test.state();
        test.holder();
        test.records();
        test.entryAndContent();
        test.messages();
        test.message();
        test.forced();
        test.check.finish();
    }

    private void newObject() {
        fresh("1: All nodes UP, logs empty, no transactions, no messages.");
        for (int node = 0; node < 4; node++) {
            due("up(" + node + ")", 1);
            dueRecords(node, 0, 0);
            dueRecord(node, 0, NONE, NONE);
            due("forced(" + node + ")", 0);
            for (int r = 0; r < 8; r++) {
                due("holder(" + node + ", " + r + ")", NONE);
            }
            refused("state(" + node + ", 0)", BAD);
            refused("expire(" + node + ", 0, true)", BAD);
            refused("expire(" + node + ", 0, false)", BAD);
            refused("recover(" + node + ")", LATE);
        }
        for (String call : new String[] {"stage(0)", "nodes(0, 0)", "work(0, 0, 0)", "commit(0)", "withdraw(0)"}) {
            refused(call, BAD);
        }
        due("messages()", 0);
        for (String call : new String[] {"message(0, 0)", "deliver(0)", "lose(0)"}) {
            refused(call, BAD);
        }
        due("begin(3)", 0);
    }

    private void begin() {
        fresh("2: Begins a transaction with this coordinator, its stage OPEN, and answers its number.");
        due("begin(3)", 0);
        due("stage(0)", OPEN);
        dueSets(0, 0, 0, 0, 0);
        due("messages()", 0);
        dueRecords(3, 0, 0);
        for (int node = 0; node < 4; node++) {
            due("state(" + node + ", 0)", NOTHING);
            due("expire(" + node + ", 0, false)", node == 3 ? LATE : BAD);
        }
        fresh("2: BAD;");
        for (int node : NO_NODE) {
            refused("begin(" + node + ")", BAD);
        }
        due("begin(0)", 0);
        fresh("2: DOWN when the coordinator is;");
        run("crash(0)");
        refused("begin(0)", DOWN);
        due("begin(1)", 0);
        run("recover(0)");
        due("begin(0)", 1);
        fresh("2: FULL.");
        for (int t = 0; t < 10; t++) {
            due("begin(0)", t);
        }
        for (int node = 0; node < 4; node++) {
            refused("begin(" + node + ")", FULL);
        }
        run("crash(0)", "recover(0)");
        refused("begin(0)", FULL);
    }

    private void work() {
        workForNone();
        workMakesAMember();
        workIsRefused();
        workStaysRefused();
        workHolds();
        workIsBad();
        workIsDown();
        workIsLate();
    }

    private void workForNone() {
        fresh("3: asks for resource r there, or for none when r is NONE");
        run("begin(0)", "begin(0)", "work(1, 2, 0)", "work(1, 2, 7)");
        due("work(0, 2, NONE)", 1);
        due("state(2, 0)", WORKING);
        due("nodes(0, 0)", 4);
        dueNoneHeldBy(2, 0);
        due("work(0, 2, NONE)", 1);
        dueNoneHeldBy(2, 0);
        due("holder(2, 0)", 1);
        due("holder(2, 7)", 1);
    }

    private void dueNoneHeldBy(int node, int t) {
        for (int r = 0; r < 8; r++) {
            check.due("that " + t + " holds " + r + " at " + node, x.holder(node, r) == t, false);
        }
    }

    private void workMakesAMember() {
        fresh("3: If the node is no member, it becomes one, in the state WORKING.");
        run("begin(2)");
        int members = 0;
        for (int node = 0; node < 4; node++) {
            due("state(" + node + ", 0)", NOTHING);
            due("work(0, " + node + ", 7)", 1);
            members |= 1 << node;
            due("state(" + node + ", 0)", WORKING);
            dueSets(0, members, 0, 0, 0);
            due("work(0, " + node + ", 0)", 1);
            dueSets(0, members, 0, 0, 0);
        }
        due("messages()", 0);
        dueRecords(2, 0, 0);
    }

    private void workIsRefused() {
        fresh("3: If r is held by another transaction there, the state becomes REFUSED, and the answer is 0");
        run("begin(0)", "begin(0)", "begin(0)", "work(0, 1, 0)", "work(0, 1, 7)");
        due("work(1, 1, 7)", 0);
        due("state(1, 1)", REFUSED);
        due("nodes(1, 0)", 2);
        due("holder(1, 7)", 0);
        due("state(1, 0)", WORKING);
        due("work(2, 1, 1)", 1);
        due("work(2, 1, 0)", 0);
        due("state(1, 2)", REFUSED);
        due("holder(1, 1)", 2);
        due("work(2, 2, 0)", 1);
        check.about("3: held there means at that node, in any state of the holder");
        run("commit(0)", "deliver(0)", "begin(0)");
        due("work(3, 2, 7)", 1);
        due("work(3, 1, 7)", 0);
        run("begin(0)");
        due("work(4, 1, 1)", 0);
    }

    private void workStaysRefused() {
        fresh("3: the answer is 0 as well, and nothing more is held, when the state is REFUSED already");
        run("begin(0)", "begin(0)", "work(0, 1, 3)", "work(1, 1, 4)", "work(1, 1, 3)");
        for (int r = -1; r < 8; r++) {
            due("work(1, 1, " + r + ")", 0);
            due("state(1, 1)", REFUSED);
        }
        for (int r = 0; r < 8; r++) {
            due("holder(1, " + r + ")", r == 3 ? 0 : r == 4 ? 1 : NONE);
        }
        run("expire(1, 0, true)");
        due("work(1, 1, 3)", 0);
        due("holder(1, 3)", NONE);
    }

    private void workHolds() {
        fresh("3: Otherwise t holds r (if it is one) and the answer is 1.");
        run("begin(0)", "begin(0)");
        for (int r = 0; r < 8; r++) {
            due("work(" + r % 2 + ", 3, " + r + ")", 1);
            due("work(" + r % 2 + ", 3, " + r + ")", 1);
            due("holder(3, " + r + ")", r % 2);
        }
        due("work(1, 3, NONE)", 1);
        run("withdraw(0)", "deliver(0)");
        for (int r = 0; r < 8; r += 2) {
            due("holder(3, " + r + ")", NONE);
            due("work(1, 3, " + r + ")", 1);
            due("holder(3, " + r + ")", 1);
        }
    }

    private void workIsBad() {
        fresh("3: BAD;");
        run("begin(0)");
        for (int node : NO_NODE) {
            refused("work(0, " + node + ", 0)", BAD);
        }
        for (int r : NO_RESOURCE) {
            refused("work(0, 1, " + r + ")", BAD);
        }
        for (int t : NO_NUMBER) {
            refused("work(" + t + ", 1, 0)", BAD);
        }
        refused("work(1, 1, 0)", BAD);
        refused("work(0, 4, 8)", BAD);
        refused("work(1, 1, NONE)", BAD);
    }

    private void workIsDown() {
        fresh("3: DOWN when the node or the coordinator of t is;");
        run("begin(0)", "work(0, 1, 1)", "work(0, 2, 1)", "crash(1)");
        refused("work(0, 1, 1)", DOWN);
        refused("work(0, 1, NONE)", DOWN);
        run("crash(3)");
        refused("work(0, 3, 1)", DOWN);
        due("work(0, 2, 2)", 1);
        run("crash(0)");
        refused("work(0, 2, 3)", DOWN);
        refused("work(0, 0, 3)", DOWN);
        refused("work(0, 1, 3)", DOWN);
        run("recover(3)");
        refused("work(0, 3, 3)", DOWN);
    }

    private void workIsLate() {
        fresh("3: LATE when the stage of t is not OPEN");
        decided();
        run("begin(0)", "begin(0)", "begin(0)", "work(1, 3, 1)", "work(2, 3, 2)");
        run("commit(1)", "withdraw(2)", "commit(3)");
        for (int t = 0; t < 4; t++) {
            for (int node = 0; node < 4; node++) {
                refused("work(" + t + ", " + node + ", 0)", LATE);
                refused("work(" + t + ", " + node + ", NONE)", LATE);
            }
        }
        fresh("3: or the node is a member and has the state NOTHING");
        run("begin(0)", "work(0, 1, 1)", "work(0, 2, 1)", "expire(1, 0, true)", "crash(2)", "recover(2)");
        due("stage(0)", OPEN);
        for (int r = -1; r < 8; r++) {
            refused("work(0, 1, " + r + ")", LATE);
            refused("work(0, 2, " + r + ")", LATE);
        }
        due("work(0, 3, 1)", 1);
        due("work(0, 0, 1)", 1);
        run("crash(3)", "recover(3)", "begin(0)");
        due("work(1, 3, 1)", 1);
    }

    private void commit() {
        fresh("4: without members it forgets t");
        run("begin(1)");
        due("commit(0)", 0);
        dueForgotten(0);
        due("messages()", 0);
        dueRecords(1, 0, 0);
        for (int members = 1; members < 16; members++) {
            fresh("4: otherwise the stage is COLLECTING, and PREPARE is sent to the members; " + members);
            run("begin(1)");
            workAt(0, members);
            due("commit(0)", Integer.bitCount(members));
            due("stage(0)", COLLECTING);
            dueSets(0, members, 0, 0, 0);
            dueSentTo(members, PREPARE, 1, 0);
        }
        fresh("4: Answers how many members there are, also of those that are DOWN or have let go");
        run("begin(0)", "work(0, 1, 1)", "work(0, 2, 1)", "work(0, 3, 1)", "crash(1)", "expire(2, 0, true)");
        due("commit(0)", 3);
        dueSentTo(14, PREPARE, 0, 0);
        fresh("4: BAD;");
        for (int t : NO_NUMBER) {
            refused("commit(" + t + ")", BAD);
        }
        refused("commit(0)", BAD);
        run("begin(0)");
        refused("commit(1)", BAD);
        fresh("4: DOWN when the coordinator is;");
        run("begin(0)", "work(0, 1, 1)", "crash(0)");
        refused("commit(0)", DOWN);
        fresh("4: LATE when the stage is not OPEN.");
        decided();
        refused("commit(0)", LATE);
        deliverFirst(4);
        refused("commit(0)", LATE);
        run("begin(0)", "work(1, 1, 1)", "commit(1)");
        refused("commit(1)", LATE);
        run("begin(2)", "crash(2)", "recover(2)");
        refused("commit(2)", LATE);
    }

    private void workAt(int t, int nodes) {
        for (int node = 3; node >= 0; node--) {
            if ((nodes >> node & 1) == 1) {
                run("work(" + t + ", " + node + ", " + node + ")");
            }
        }
    }

    /** The messages that are there, just these, the lower number first. */
    private void dueSentTo(int nodes, int kind, int sender, int t) {
        int k = 0;
        for (int node = 0; node < 4; node++) {
            if ((nodes >> node & 1) == 1) {
                dueMessage(k, kind, sender, node, t);
                k++;
            }
        }
        due("messages()", k);
    }

    private void withdraw() {
        for (int members = 0; members < 16; members++) {
            fresh("5: The coordinator withdraws t; answers to how many nodes it sends ABORT; members " + members);
            run("begin(2)");
            workAt(0, members);
            due("withdraw(0)", Integer.bitCount(members));
            dueForgotten(0);
            dueSentTo(members, ABORT, 2, 0);
            dueRecord(2, 0, 5, 0);
            dueRecords(2, 1, 0);
        }
        fresh("5: the same when COLLECTING, where one that said READ is not told");
        run("begin(2)", "work(0, 0, NONE)", "work(0, 1, NONE)", "commit(0)", "deliver(0)", "deliver(1)", "lose(0)");
        dueSets(0, 3, 0, 1, 0);
        due("withdraw(0)", 1);
        dueSentTo(2, ABORT, 2, 0);
        fresh("5: BAD;");
        for (int t : NO_NUMBER) {
            refused("withdraw(" + t + ")", BAD);
        }
        refused("withdraw(0)", BAD);
        run("begin(0)");
        refused("withdraw(1)", BAD);
        fresh("5: DOWN when the coordinator is;");
        run("begin(0)", "work(0, 1, 1)", "crash(0)");
        refused("withdraw(0)", DOWN);
        fresh("5: LATE when the stage is not OPEN or COLLECTING.");
        decided();
        refused("withdraw(0)", LATE);
        deliverFirst(4);
        refused("withdraw(0)", LATE);
        run("begin(0)", "withdraw(1)");
        refused("withdraw(1)", LATE);
        run("begin(2)", "crash(2)", "recover(2)");
        refused("withdraw(2)", LATE);
    }

    private void deliver() {
        fresh("6: Takes message k out of the row; if its receiver is UP, it hears it.");
        run("begin(0)", "work(0, 1, 1)", "work(0, 2, 1)", "work(0, 3, 1)", "commit(0)", "crash(2)");
        due("deliver(1)", PREPARE);
        due("messages()", 2);
        dueRecords(2, 0, 0);
        run("recover(2)");
        due("state(2, 0)", NOTHING);
        due("deliver(1)", PREPARE);
        dueMessage(0, PREPARE, 0, 1, 0);
        dueMessage(1, YES, 3, 0, 0);
        run("crash(0)");
        due("deliver(1)", YES);
        due("messages()", 1);
        check.about("6: the sender need not be UP");
        due("deliver(0)", PREPARE);
        dueMessage(0, YES, 1, 0, 0);
        deliversEachKindToADownNode();
        fresh("6: BAD.");
        refused("deliver(0)", BAD);
        run("begin(0)", "work(0, 1, 1)", "work(0, 2, 1)", "commit(0)");
        refused("deliver(2)", BAD);
        for (int k : NO_NUMBER) {
            refused("deliver(" + k + ")", BAD);
        }
    }

    private void deliversEachKindToADownNode() {
        fresh("6: Answers the kind of the message, also when nobody hears it");
        run("begin(0)", "work(0, 1, 1)", "work(0, 2, 1)", "commit(0)", "deliver(0)", "deliver(0)");
        run("expire(1, 0, true)", "deliver(0)", "deliver(0)");
        run("deliver(1)", "crash(0)", "crash(1)", "crash(2)");
        dueMessage(0, INQUIRY, 1, 0, 0);
        dueMessage(1, COMMIT, 0, 2, 0);
        dueMessage(2, ACK, 1, 0, 0);
        String before = Snapshot.of(x).replaceAll("row:.*", "");
        due("deliver(2)", ACK);
        due("deliver(1)", COMMIT);
        due("deliver(0)", INQUIRY);
        due("messages()", 0);
        check.due("what is asked", Snapshot.of(x).replaceAll("row:.*", ""), before);
    }

    private void lose() {
        fresh("7: Takes message k out of the row, and nobody hears it. Answers its kind.");
        run("begin(0)", "work(0, 1, 1)", "work(0, 2, 1)", "commit(0)");
        String before = Snapshot.of(x).replaceAll("row:.*", "");
        due("lose(1)", PREPARE);
        dueMessage(0, PREPARE, 0, 1, 0);
        due("lose(0)", PREPARE);
        due("messages()", 0);
        check.due("what is asked", Snapshot.of(x).replaceAll("row:.*", ""), before);
        fresh("7: BAD.");
        refused("lose(0)", BAD);
        run("begin(0)", "work(0, 1, 1)", "work(0, 2, 1)", "commit(0)");
        refused("lose(2)", BAD);
        for (int k : NO_NUMBER) {
            refused("lose(" + k + ")", BAD);
        }
    }

    private void expire() {
        expireAsMember();
        expireAsCoordinator();
        expireIsRefused();
    }

    private void expireAsMember() {
        fresh("8: As a member: when WORKING or REFUSED, it writes ABORTED and lets go");
        run("begin(0)", "begin(0)", "work(0, 1, 1)", "work(1, 1, 2)", "work(1, 1, 1)");
        due("expire(1, 1, true)", 1);
        dueLetGo(1, 1);
        dueRecord(1, 0, 13, 0);
        due("expire(1, 0, true)", 1);
        dueLetGo(1, 0);
        dueRecord(1, 1, 3, 0);
        dueRecords(1, 2, 0);
        due("messages()", 0);
        fresh("8: when PREPARED, it sends INQUIRY to the coordinator of t");
        run("begin(3)", "work(0, 1, 1)", "commit(0)", "deliver(0)", "lose(0)", "crash(3)");
        due("expire(1, 0, true)", 1);
        due("expire(1, 0, true)", 1);
        due("messages()", 2);
        dueMessage(0, INQUIRY, 1, 3, 0);
        dueMessage(1, INQUIRY, 1, 3, 0);
        due("state(1, 0)", PREPARED);
        dueRecords(1, 1, 1);
    }

    private void expireAsCoordinator() {
        fresh("8: As the coordinator (member is false): when COLLECTING, it withdraws t");
        run("begin(0)", "work(0, 0, 1)", "work(0, 1, NONE)", "work(0, 2, 1)", "commit(0)", "deliver(1)", "deliver(2)");
        dueSets(0, 7, 0, 2, 0);
        due("expire(0, 0, false)", 1);
        dueForgotten(0);
        dueRecord(0, 0, 5, 0);
        due("messages()", 4);
        dueMessage(2, ABORT, 0, 0, 0);
        dueMessage(3, ABORT, 0, 2, 0);
        due("state(0, 0)", WORKING);
        for (int due = 1; due < 16; due++) {
            fresh("8: when COMMITTING, it sends COMMIT to the nodes due; " + due);
            run("begin(3)");
            workAt(0, 15);
            run("commit(0)");
            deliverFirst(8);
            ackAllBut(due);
            dueSets(0, 15, 15, 0, due);
            due("messages()", 0);
            due("expire(3, 0, false)", 1);
            dueSentTo(due, COMMIT, 3, 0);
            due("stage(0)", COMMITTING);
            dueSets(0, 15, 15, 0, due);
        }
    }

    /** Of four COMMITs, those to the nodes that stay due are lost, and the others are heard and answered. */
    private void ackAllBut(int due) {
        for (int node = 0; node < 4; node++) {
            run((due >> node & 1) == 1 ? "lose(0)" : "deliver(0)");
        }
        deliverFirst(x.messages());
    }

    private void expireIsRefused() {
        fresh("8: BAD (also when member is false and the node is not the coordinator of t)");
        run("begin(0)", "work(0, 1, 1)", "commit(0)");
        for (int node = 1; node < 4; node++) {
            refused("expire(" + node + ", 0, false)", BAD);
        }
        for (int node : NO_NODE) {
            refused("expire(" + node + ", 0, true)", BAD);
            refused("expire(" + node + ", 0, false)", BAD);
        }
        for (int t : NO_NUMBER) {
            refused("expire(1, " + t + ", true)", BAD);
            refused("expire(0, " + t + ", false)", BAD);
        }
        refused("expire(1, 1, true)", BAD);
        refused("expire(0, 1, false)", BAD);
        fresh("8: DOWN;");
        run("begin(0)", "work(0, 1, 1)", "commit(0)", "crash(1)");
        refused("expire(1, 0, true)", DOWN);
        refused("expire(1, 0, false)", BAD);
        run("crash(0)");
        refused("expire(0, 0, false)", DOWN);
        refused("expire(0, 0, true)", DOWN);
        fresh("8: LATE in all other cases.");
        run("begin(0)", "work(0, 1, 1)");
        refused("expire(0, 0, false)", LATE);
        refused("expire(0, 0, true)", LATE);
        refused("expire(3, 0, true)", LATE);
        run("withdraw(0)", "deliver(0)");
        refused("expire(0, 0, false)", LATE);
        refused("expire(1, 0, true)", LATE);
        run("begin(2)", "work(1, 2, 1)", "commit(1)", "crash(2)", "recover(2)");
        refused("expire(2, 1, false)", LATE);
        refused("expire(2, 1, true)", LATE);
    }

    private void crash() {
        fresh("9: The node goes DOWN: its memory is lost (all states and stages are NOTHING)");
        run("begin(1)", "begin(1)", "begin(1)", "begin(0)");
        run("work(0, 1, 0)", "commit(0)", "deliver(0)", "deliver(0)");
        run("work(1, 1, 1)", "commit(1)", "work(2, 1, 2)", "work(3, 1, 3)", "work(3, 1, 0)", "work(3, 2, 3)");
        due("stage(0)", COMMITTING);
        due("stage(1)", COLLECTING);
        due("stage(2)", OPEN);
        due("state(1, 0)", PREPARED);
        due("state(1, 3)", REFUSED);
        due("messages()", 2);
        due("crash(1)", 0);
        due("up(1)", 0);
        for (int t = 0; t < 4; t++) {
            dueLetGo(1, t);
        }
        for (int t = 0; t < 3; t++) {
            dueForgotten(t);
        }
        due("stage(3)", OPEN);
        due("nodes(3, 0)", 6);
        due("state(2, 3)", WORKING);
        due("holder(2, 3)", 3);
        due("messages()", 2);
        fresh("9: and so are the records that are not safe. Answers how many records are lost.");
        due("crash(0)", 0);
        run("recover(0)", "begin(0)", "withdraw(0)");
        due("crash(0)", 1);
        dueRecords(0, 0, 0);
        dueRecord(0, 0, NONE, NONE);
        run("recover(0)", "begin(0)", "work(1, 0, 0)", "commit(1)", "deliver(0)", "begin(0)", "begin(0)", "begin(0)");
        run("withdraw(2)", "withdraw(3)", "withdraw(4)");
        dueRecords(0, 4, 1);
        due("crash(0)", 3);
        dueRecords(0, 1, 1);
        dueRecord(0, 0, 11, 1);
        run("recover(0)");
        due("crash(0)", 0);
        dueRecords(0, 1, 1);
        fresh("9: BAD;");
        for (int node : NO_NODE) {
            refused("crash(" + node + ")", BAD);
        }
        fresh("9: DOWN when it is DOWN already.");
        for (int node = 0; node < 4; node++) {
            due("crash(" + node + ")", 0);
            refused("crash(" + node + ")", DOWN);
        }
    }

    private void recover() {
        recoverPrepared();
        recoverNotWhenEnded();
        recoverCommitting();
        recoverBothLowerFirst();
        fresh("10: BAD;");
        run("crash(0)", "crash(3)");
        for (int node : NO_NODE) {
            refused("recover(" + node + ")", BAD);
        }
        fresh("10: LATE when it is UP.");
        decided();
        for (int node = 0; node < 4; node++) {
            refused("recover(" + node + ")", LATE);
        }
        run("crash(1)");
        due("recover(1)", 1);
        refused("recover(1)", LATE);
    }

    private void recoverPrepared() {
        fresh("10: if its log has PREPARED of t its state is PREPARED, and t holds the resources in that record");
        run("begin(0)", "begin(0)", "begin(0)", "work(0, 1, 0)", "work(0, 1, 7)", "work(1, 1, 3)", "work(2, 1, NONE)");
        run("commit(0)", "deliver(0)", "commit(2)", "deliver(1)", "crash(1)");
        due("recover(1)", 1);
        due("up(1)", 1);
        due("state(1, 0)", PREPARED);
        due("state(1, 1)", NOTHING);
        due("state(1, 2)", NOTHING);
        for (int r = 0; r < 8; r++) {
            due("holder(1, " + r + ")", r == 0 || r == 7 ? 0 : NONE);
        }
        dueRecords(1, 1, 1);
        due("forced(1)", 1);
        due("crash(1)", 0);
        due("recover(1)", 1);
        due("state(1, 0)", PREPARED);
        fresh("10: an empty log brings nothing back");
        for (int t = 0; t < 10; t++) {
            run("begin(0)");
        }
        due("crash(0)", 0);
        due("recover(0)", 0);
        due("messages()", 0);
    }

    private void recoverNotWhenEnded() {
        fresh("10: and neither COMMITTED ..");
        decided();
        run("deliver(0)", "crash(1)");
        due("recover(1)", 0);
        dueLetGo(1, 0);
        fresh("10: .. nor ABORTED of t, if that record was safe");
        run("begin(0)", "work(0, 1, 1)", "commit(0)", "deliver(0)", "withdraw(0)", "deliver(1)");
        dueRecords(1, 2, 1);
        run("begin(0)", "work(1, 1, 2)", "commit(1)", "deliver(1)");
        dueRecords(1, 3, 3);
        run("crash(1)");
        due("recover(1)", 1);
        dueLetGo(1, 0);
        due("state(1, 1)", PREPARED);
        fresh("10: .. and if the ABORTED was lost, PREPARED comes back");
        run("begin(0)", "work(0, 1, 1)", "commit(0)", "deliver(0)", "withdraw(0)", "deliver(1)");
        due("crash(1)", 1);
        due("recover(1)", 1);
        due("state(1, 0)", PREPARED);
        due("holder(1, 1)", 0);
    }

    private void recoverCommitting() {
        fresh("10: the members, those who said YES and the nodes due are those in that record");
        run("begin(0)", "work(0, 1, 1)", "work(0, 2, NONE)", "work(0, 3, 1)", "commit(0)");
        deliverFirst(6);
        dueSets(0, 14, 10, 4, 10);
        run("deliver(0)", "deliver(1)", "lose(0)");
        dueSets(0, 14, 10, 4, 8);
        due("messages()", 0);
        due("crash(0)", 0);
        due("recover(0)", 1);
        due("stage(0)", COMMITTING);
        dueSets(0, 10, 10, 0, 10);
        dueSentTo(10, COMMIT, 0, 0);
        dueRecords(0, 1, 1);
        check.about("10: and not ENDED of t");
        deliverFirst(4);
        dueForgotten(0);
        dueRecords(0, 2, 1);
        run("begin(0)", "work(1, 0, 0)", "commit(1)", "deliver(0)", "lose(0)");
        dueRecords(0, 3, 3);
        due("crash(0)", 0);
        due("recover(0)", 1);
        dueForgotten(0);
        due("state(0, 1)", PREPARED);
        due("messages()", 0);
        fresh("10: an ENDED that was lost lets the stage come back");
        decided();
        deliverFirst(4);
        due("crash(0)", 1);
        due("recover(0)", 1);
        due("stage(0)", COMMITTING);
        dueSentTo(6, COMMIT, 0, 0);
    }

    private void recoverBothLowerFirst() {
        fresh("10: For each transaction t, the lower number first. Answers how many states and stages came back so.");
        run("begin(1)", "begin(1)", "begin(1)");
        for (int t = 2; t >= 0; t--) {
            run("work(" + t + ", 3, " + t + ")", "work(" + t + ", 1, " + t + ")", "commit(" + t + ")");
            deliverFirst(4);
            run("lose(0)", "lose(0)");
        }
        dueRecord(1, 0, 21, 4);
        due("crash(1)", 0);
        due("recover(1)", 6);
        due("messages()", 6);
        for (int t = 0; t < 3; t++) {
            due("state(1, " + t + ")", PREPARED);
            due("holder(1, " + t + ")", t);
            due("stage(" + t + ")", COMMITTING);
            dueSets(t, 10, 10, 0, 10);
            dueMessage(2 * t, COMMIT, 1, 1, t);
            dueMessage(2 * t + 1, COMMIT, 1, 3, t);
        }
    }

    private void up() {
        fresh("11: Whether a node is UP; false also when there is no such node.");
        for (int node : NO_NODE) {
            due("up(" + node + ")", 0);
        }
        for (int node = 0; node < 4; node++) {
            due("up(" + node + ")", 1);
            run("crash(" + node + ")");
            due("up(" + node + ")", 0);
        }
    }

    private void stage() {
        fresh("12: The stage of t at its coordinator; BAD.");
        for (int t : NO_NUMBER) {
            refused("stage(" + t + ")", BAD);
        }
        refused("stage(0)", BAD);
        run("begin(0)");
        due("stage(0)", OPEN);
        refused("stage(1)", BAD);
    }

    private void nodes() {
        fresh("13: BAD when there is no t, or which is not 0 .. 3.");
        refused("nodes(0, 0)", BAD);
        run("begin(0)", "work(0, 3, 0)");
        dueSets(0, 8, 0, 0, 0);
        refused("nodes(1, 0)", BAD);
        for (int which : NO_NODE) {
            refused("nodes(0, " + which + ")", BAD);
            refused("nodes(1, " + which + ")", BAD);
        }
        fresh("13: The sum of 2^n over the nodes n in a set at the coordinator of t: none is 0, all are 15");
        run("begin(0)");
        due("nodes(0, 0)", 0);
        workAt(0, 15);
        due("nodes(0, 0)", 15);
        run("commit(0)");
        deliverFirst(8);
        dueSets(0, 15, 15, 0, 15);
    }

    private void state() {
        fresh("14: The state of t at a node; BAD.");
        refused("state(0, 0)", BAD);
        run("begin(0)", "work(0, 3, 0)");
        due("state(3, 0)", WORKING);
        due("state(0, 0)", NOTHING);
        refused("state(3, 1)", BAD);
        refused("state(3, -1)", BAD);
        refused("state(4, 0)", BAD);
        refused("state(-1, 0)", BAD);
        run("crash(3)");
        due("state(3, 0)", NOTHING);
    }

    private void holder() {
        fresh("15: The transaction that holds resource r at a node; NONE when none does; BAD.");
        due("holder(3, 7)", NONE);
        run("begin(0)", "work(0, 3, 7)");
        due("holder(3, 7)", 0);
        due("holder(3, 6)", NONE);
        refused("holder(3, 8)", BAD);
        refused("holder(3, -1)", BAD);
        refused("holder(4, 7)", BAD);
        refused("holder(-1, 7)", BAD);
        run("crash(3)");
        due("holder(3, 7)", NONE);
    }

    private void records() {
        fresh("16: How many records a node's log has (safe: how many of them are safe); BAD.");
        dueRecords(3, 0, 0);
        run("begin(3)", "withdraw(0)");
        dueRecords(3, 1, 0);
        run("begin(3)", "work(1, 3, 0)", "commit(1)", "deliver(0)");
        dueRecords(3, 2, 2);
        run("crash(3)");
        dueRecords(3, 2, 2);
        for (int node : NO_NODE) {
            dueRecords(node, BAD, BAD);
        }
    }

    private void entryAndContent() {
        fresh("17, 18: NONE when there is no such record; BAD when there is no such node.");
        dueRecord(3, 0, NONE, NONE);
        run("begin(3)", "work(0, 3, 7)", "commit(0)", "deliver(0)");
        dueRecord(3, 0, 1, 128);
        dueRecord(3, 1, NONE, NONE);
        for (int k : NO_NUMBER) {
            dueRecord(3, k, NONE, NONE);
            dueRecord(4, k, BAD, BAD);
            dueRecord(-1, k, BAD, BAD);
        }
        for (int node : NO_NODE) {
            dueRecord(node, 0, BAD, BAD);
        }
        check.about("17, 18: a record that a crash has lost is none any more, a safe one is there when DOWN too");
        run("begin(3)", "withdraw(1)");
        dueRecord(3, 1, 15, 0);
        run("crash(3)");
        dueRecord(3, 1, NONE, NONE);
        dueRecord(3, 0, 1, 128);
    }

    private void messages() {
        fresh("19: How many messages there are.");
        due("messages()", 0);
        run("begin(3)", "work(0, 3, 7)", "commit(0)");
        due("messages()", 1);
        run("lose(0)");
        due("messages()", 0);
    }

    private void message() {
        fresh("20: BAD when there is no such message, or what is not 0 .. 3.");
        refused("message(0, 0)", BAD);
        run("begin(3)", "work(0, 2, 7)", "commit(0)");
        dueMessage(0, PREPARE, 3, 2, 0);
        refused("message(1, 0)", BAD);
        for (int what : NO_NODE) {
            refused("message(0, " + what + ")", BAD);
            refused("message(1, " + what + ")", BAD);
        }
        for (int k : NO_NUMBER) {
            refused("message(" + k + ", 0)", BAD);
        }
    }

    private void forced() {
        fresh("21: How many records a node has forced since the beginning; BAD.");
        for (int node : NO_NODE) {
            refused("forced(" + node + ")", BAD);
        }
        due("forced(1)", 0);
        decided();
        run("deliver(0)");
        due("forced(1)", 2);
        run("crash(1)");
        due("forced(1)", 2);
        run("recover(1)");
        due("forced(1)", 2);
    }
}

/** For each sentence of the document's 'What it is' and 'Terms' that names a boundary, a test of its own. */
public final class TermsEdgeTest extends Bench {
    public static void main(String[] args) {
        TermsEdgeTest test = new TermsEdgeTest();
        test.theLastPromisedCall();
        test.nodesAre0To3();
        test.transactionsAreAtMostTen();
        test.resourcesAre0To7();
        test.nothingHoldsNone();
        test.oneHolderAtMost();
        test.lettingGo();
        test.forgetting();
        test.writingPutsAtTheEnd();
        test.forcingMakesAllSafe();
        test.theLargestLog();
        test.rowStandsInOrder();
        test.lowerNumberFirst();
        test.aNodeSendsToItself();
        test.withdrawingSparesReadAndNo();
        test.membersHear();
        test.coordinatorsHear();
        test.check.finish();
    }

    private void theLastPromisedCall() {
        fresh("An object is used for at most 512 calls after it has been made; what later calls answer is free.");
        run("begin(0)", "work(0, 1, 3)", "commit(0)", "deliver(0)");
        int calls = 4;
        while (calls < 510) {
            due("crash(1)", 0);
            due("recover(1)", 1);
            calls += 2;
        }
        due("state(1, 0)", PREPARED);
        due("holder(1, 3)", 0);
        check.due("calls made", calls + 2, 512);
    }

    private void nodesAre0To3() {
        fresh("NODES 0 .. 3 are UP or DOWN, at first UP.");
        for (int node = 0; node < 4; node++) {
            due("up(" + node + ")", 1);
            due("crash(" + node + ")", 0);
            due("up(" + node + ")", 0);
            due("recover(" + node + ")", 0);
            due("up(" + node + ")", 1);
        }
        run("begin(0)", "work(0, 3, 7)");
        for (int node : NO_NODE) {
            refused("begin(" + node + ")", BAD);
            refused("work(0, " + node + ", 0)", BAD);
            refused("work(0, " + node + ", NONE)", BAD);
            refused("expire(" + node + ", 0, true)", BAD);
            refused("expire(" + node + ", 0, false)", BAD);
            refused("crash(" + node + ")", BAD);
            refused("recover(" + node + ")", BAD);
            refused("up(" + node + ")", 0);
            refused("state(" + node + ", 0)", BAD);
            refused("holder(" + node + ", 0)", BAD);
            refused("records(" + node + ", true)", BAD);
            refused("records(" + node + ", false)", BAD);
            refused("entry(" + node + ", 0)", BAD);
            refused("content(" + node + ", 0)", BAD);
            refused("forced(" + node + ")", BAD);
        }
    }

    private void transactionsAreAtMostTen() {
        fresh("TRANSACTIONS are numbered 0, 1, .. as they are begun, at most 10");
        for (int t = 0; t < 10; t++) {
            dueNoTransaction(t);
            due("begin(" + t % 4 + ")", t);
            due("stage(" + t + ")", OPEN);
            due("state(0, " + t + ")", NOTHING);
            dueSets(t, 0, 0, 0, 0);
            dueNoTransaction(-1);
        }
        for (int t : NO_NUMBER) {
            dueNoTransaction(t);
        }
        dueNoTransaction(10);
        refused("begin(0)", FULL);
        fresh("A number stays with its transaction when that has ended");
        for (int t = 0; t < 10; t++) {
            due("begin(0)", t);
            due(t % 2 == 0 ? "commit(" + t + ")" : "withdraw(" + t + ")", 0);
            due("stage(" + t + ")", NOTHING);
        }
        refused("begin(0)", FULL);
        due("stage(0)", NOTHING);
        due("stage(10)", BAD);
    }

    private void dueNoTransaction(int t) {
        refused("work(" + t + ", 0, 0)", BAD);
        refused("work(" + t + ", 0, NONE)", BAD);
        refused("commit(" + t + ")", BAD);
        refused("withdraw(" + t + ")", BAD);
        refused("expire(0, " + t + ", true)", BAD);
        refused("expire(0, " + t + ", false)", BAD);
        refused("stage(" + t + ")", BAD);
        refused("nodes(" + t + ", 0)", BAD);
        refused("state(0, " + t + ")", BAD);
    }

    private void resourcesAre0To7() {
        fresh("Every node has RESOURCES 0 .. 7.");
        run("begin(0)");
        for (int node = 0; node < 4; node++) {
            for (int r = 0; r < 8; r++) {
                due("holder(" + node + ", " + r + ")", NONE);
                due("work(0, " + node + ", " + r + ")", 1);
                due("holder(" + node + ", " + r + ")", 0);
            }
        }
        for (int r : NO_RESOURCE) {
            refused("work(0, 0, " + r + ")", BAD);
            refused("holder(0, " + r + ")", BAD);
        }
        refused("holder(0, NONE)", BAD);
        fresh("A first work that names no resource makes no member");
        run("begin(0)");
        refused("work(0, 1, 8)", BAD);
        refused("work(0, 1, -2)", BAD);
        due("nodes(0, 0)", 0);
    }

    private void nothingHoldsNone() {
        fresh("the resources that the transaction HOLDS there (none when the state is NOTHING)");
        run("begin(0)", "begin(0)", "work(0, 1, 0)", "work(0, 1, 7)", "work(1, 1, 3)");
        run("expire(1, 0, true)");
        dueHolders(1, NONE, NONE, NONE, 1, NONE, NONE, NONE, NONE);
        run("withdraw(1)", "deliver(0)");
        dueHolders(1, NONE, NONE, NONE, NONE, NONE, NONE, NONE, NONE);
        run("begin(0)", "work(2, 1, 0)", "work(2, 1, 6)", "commit(2)");
        dueHolders(1, 2, NONE, NONE, NONE, NONE, NONE, 2, NONE);
        run("deliver(0)");
        dueHolders(1, 2, NONE, NONE, NONE, NONE, NONE, 2, NONE);
        run("crash(1)");
        dueHolders(1, NONE, NONE, NONE, NONE, NONE, NONE, NONE, NONE);
        run("recover(1)");
        dueHolders(1, 2, NONE, NONE, NONE, NONE, NONE, 2, NONE);
        run("deliver(0)", "deliver(0)");
        due("state(1, 2)", NOTHING);
        dueHolders(1, NONE, NONE, NONE, NONE, NONE, NONE, NONE, NONE);
    }

    private void dueHolders(int node, int... holders) {
        for (int r = 0; r < 8; r++) {
            due("holder(" + node + ", " + r + ")", holders[r]);
        }
    }

    private void oneHolderAtMost() {
        fresh("each resource is held by at most one transaction");
        for (int t = 0; t < 10; t++) {
            run("begin(0)");
        }
        due("work(4, 2, 6)", 1);
        for (int t = 0; t < 9; t++) {
            due("work(" + t + ", 2, 6)", t == 4 ? 1 : 0);
            due("state(2, " + t + ")", t == 4 ? WORKING : REFUSED);
            due("holder(2, 6)", 4);
        }
        run("expire(2, 4, true)");
        due("holder(2, 6)", NONE);
        due("work(3, 2, 6)", 0);
        due("holder(2, 6)", NONE);
        due("work(9, 2, 6)", 1);
        due("holder(2, 6)", 9);
    }

    private void lettingGo() {
        fresh("LETTING GO of a transaction: it holds nothing there any more, and the state is NOTHING.");
        run("begin(0)", "begin(0)", "work(0, 1, 0)", "work(0, 1, 7)", "work(0, 2, 0)", "work(1, 1, 1)");
        due("expire(1, 0, true)", 1);
        dueLetGo(1, 0);
        due("state(2, 0)", WORKING);
        due("holder(2, 0)", 0);
        due("state(1, 1)", WORKING);
        due("holder(1, 1)", 1);
        due("nodes(0, 0)", 6);
        due("stage(0)", OPEN);
    }

    private void forgetting() {
        fresh("FORGETTING a transaction: the stage is NOTHING and the four sets are empty.");
        run("begin(0)", "begin(0)", "work(1, 0, 1)", "commit(0)");
        dueForgotten(0);
        due("stage(1)", OPEN);
        due("nodes(1, 0)", 1);
        run("withdraw(1)", "lose(0)");
        dueForgotten(1);
        run("begin(0)", "work(2, 1, NONE)", "work(2, 2, NONE)", "commit(2)");
        deliverFirst(3);
        dueSets(2, 6, 0, 2, 0);
        run("deliver(0)");
        dueForgotten(2);
        run("begin(0)", "work(3, 1, 0)", "work(3, 2, NONE)", "commit(3)");
        deliverFirst(4);
        dueSets(3, 6, 2, 4, 2);
        deliverFirst(2);
        dueForgotten(3);
        run("begin(0)", "work(4, 1, 0)", "work(4, 2, NONE)", "work(4, 3, 0)", "commit(4)");
        deliverFirst(5);
        dueSets(4, 14, 2, 4, 0);
        run("expire(0, 4, false)");
        dueForgotten(4);
    }

    private void writingPutsAtTheEnd() {
        fresh("WRITING a record puts it at the end of the row");
        dueRecords(0, 0, 0);
        dueRecord(0, 0, NONE, NONE);
        for (int t = 0; t < 10; t++) {
            run("begin(0)");
        }
        for (int t = 9; t >= 0; t--) {
            run("withdraw(" + t + ")");
            dueRecords(0, 10 - t, 0);
            dueRecord(0, 9 - t, 10 * t + 5, 0);
            dueRecord(0, 10 - t, NONE, NONE);
        }
        dueRecord(0, 0, 95, 0);
    }

    private void forcingMakesAllSafe() {
        fresh("FORCING it writes it, and then all records of the row are SAFE.");
        run("begin(0)", "begin(0)", "begin(0)", "begin(0)", "withdraw(0)", "withdraw(1)", "work(2, 0, 4)", "commit(2)");
        dueRecords(0, 2, 0);
        due("forced(0)", 0);
        run("deliver(0)");
        dueRecords(0, 3, 3);
        due("forced(0)", 1);
        run("deliver(0)");
        dueRecords(0, 4, 4);
        due("forced(0)", 2);
        run("withdraw(3)");
        dueRecords(0, 5, 4);
        due("crash(0)", 1);
        dueRecords(0, 4, 4);
        dueRecord(0, 3, 24, 1);
        dueRecord(0, 4, NONE, NONE);
        due("forced(0)", 2);
    }

    /** Four records a transaction are the most that one node can have: the coordinator as a member of its own. */
    private void theLargestLog() {
        fresh("LOG. A node has a row of RECORDS: ten transactions that all end at one node");
        for (int t = 0; t < 10; t++) {
            run("begin(2)", "work(" + t + ", 2, " + t % 8 + ")", "commit(" + t + ")");
            deliverFirst(4);
            dueRecords(2, 4 * t + 4, 4 * t + 3);
            due("forced(2)", 3 * t + 3);
        }
        for (int t = 0; t < 10; t++) {
            dueRecord(2, 4 * t, 10 * t + 1, 1 << t % 8);
            dueRecord(2, 4 * t + 1, 10 * t + 4, 4);
            dueRecord(2, 4 * t + 2, 10 * t + 2, 0);
            dueRecord(2, 4 * t + 3, 10 * t + 6, 0);
        }
        dueRecord(2, 40, NONE, NONE);
        due("crash(2)", 1);
        due("recover(2)", 1);
        due("stage(9)", COMMITTING);
    }

    private void rowStandsInOrder() {
        fresh("They stand in a row in the order in which they were sent, counted from 0");
        due("messages()", 0);
        refused("message(0, 0)", BAD);
        run("begin(0)", "work(0, 0, 0)", "work(0, 1, 0)", "work(0, 2, 0)", "work(0, 3, 0)", "commit(0)");
        due("lose(1)", PREPARE);
        dueMessage(0, PREPARE, 0, 0, 0);
        dueMessage(1, PREPARE, 0, 2, 0);
        dueMessage(2, PREPARE, 0, 3, 0);
        due("lose(2)", PREPARE);
        dueMessage(1, PREPARE, 0, 2, 0);
        refused("message(2, 0)", BAD);
        due("lose(0)", PREPARE);
        dueMessage(0, PREPARE, 0, 2, 0);
        due("lose(0)", PREPARE);
        refused("message(0, 0)", BAD);
        fresh("The row after many more than 40 were sent and taken out");
        prepareToFill();
        run("begin(2)", "work(1, 1, 0)", "commit(1)", "deliver(0)", "lose(0)");
        fillRowTo(39);
        for (int i = 0; i < 100; i++) {
            run(i % 2 == 0 ? "expire(1, 1, true)" : "expire(3, 0, true)");
            due("messages()", 40);
            due("message(39, 3)", i % 2 == 0 ? 1 : 0);
            due("message(38, 3)", i % 2 == 0 ? 0 : 1);
            due("lose(0)", INQUIRY);
        }
        due("messages()", 39);
    }

    private void lowerNumberFirst() {
        fresh("To send something to a set of nodes is to send it to each of them, the lower number first.");
        run("begin(1)", "work(0, 3, 1)", "work(0, 0, 1)", "work(0, 2, 1)", "work(0, 1, 1)", "commit(0)");
        due("messages()", 4);
        for (int node = 0; node < 4; node++) {
            dueMessage(node, PREPARE, 1, node, 0);
        }
        for (int k = 3; k >= 0; k--) {
            run("deliver(" + k + ")");
        }
        dueMessage(0, YES, 3, 1, 0);
        deliverFirst(4);
        due("messages()", 4);
        for (int node = 0; node < 4; node++) {
            dueMessage(node, COMMIT, 1, node, 0);
        }
        fresh("To send to an empty set of nodes is to send nothing");
        run("begin(1)", "begin(1)", "begin(1)", "work(2, 0, 0)", "expire(0, 2, true)", "commit(2)", "deliver(0)");
        run("commit(0)", "withdraw(1)");
        due("messages()", 1);
        due("deliver(0)", NO);
        due("messages()", 0);
    }

    private void aNodeSendsToItself() {
        fresh("(A node may send to itself.)");
        run("begin(2)", "work(0, 2, 1)", "commit(0)");
        dueMessage(0, PREPARE, 2, 2, 0);
        due("deliver(0)", PREPARE);
        dueMessage(0, YES, 2, 2, 0);
        run("expire(2, 0, true)");
        dueMessage(1, INQUIRY, 2, 2, 0);
        due("deliver(0)", YES);
        due("stage(0)", COMMITTING);
        dueMessage(1, COMMIT, 2, 2, 0);
        due("deliver(0)", INQUIRY);
        dueMessage(1, COMMIT, 2, 2, 0);
        due("deliver(0)", COMMIT);
        dueMessage(1, ACK, 2, 2, 0);
        due("deliver(1)", ACK);
        dueForgotten(0);
        dueLetGo(2, 0);
    }

    private void withdrawingSparesReadAndNo() {
        fresh("it writes WITHDRAWN, sends ABORT to the members that did not say READ");
        run("begin(0)", "work(0, 0, NONE)", "work(0, 1, NONE)", "work(0, 2, 2)", "work(0, 3, 3)", "commit(0)");
        run("deliver(0)", "deliver(0)", "deliver(0)", "deliver(1)", "deliver(2)");
        dueSets(0, 15, 4, 1, 0);
        due("withdraw(0)", 3);
        dueRecord(0, 0, 5, 0);
        dueRecords(0, 1, 0);
        due("messages()", 5);
        dueMessage(2, ABORT, 0, 1, 0);
        dueMessage(3, ABORT, 0, 2, 0);
        dueMessage(4, ABORT, 0, 3, 0);
        dueForgotten(0);
        fresh("(and not to the one whose NO brings this about, if one does)");
        run("begin(0)", "work(0, 1, 1)", "expire(1, 0, true)", "commit(0)", "deliver(0)");
        due("deliver(0)", NO);
        due("messages()", 0);
        dueRecord(0, 0, 5, 0);
        dueForgotten(0);
        run("begin(0)", "work(1, 1, NONE)", "work(1, 2, 1)", "expire(2, 1, true)", "commit(1)");
        deliverFirst(4);
        due("messages()", 0);
        dueRecord(0, 1, 15, 0);
        fresh("A NO that was lost brings nothing about, and another's NO spares only that one");
        run("begin(0)", "work(0, 1, 1)", "work(0, 2, 1)", "expire(1, 0, true)", "expire(2, 0, true)", "commit(0)");
        run("deliver(0)", "deliver(0)", "lose(0)");
        due("stage(0)", COLLECTING);
        due("deliver(0)", NO);
        due("messages()", 1);
        dueMessage(0, ABORT, 0, 1, 0);
    }

    private void membersHear() {
        prepareWithNothing();
        prepareWhenRefused();
        prepareHoldingNothing();
        prepareHoldingSomething();
        commitInAnyState();
        abortInEachState();
    }

    private void prepareWithNothing() {
        fresh("PREPARE: in state NOTHING it answers NO");
        run("begin(0)", "work(0, 1, 1)", "commit(0)", "crash(1)", "recover(1)");
        due("deliver(0)", PREPARE);
        dueMessage(0, NO, 1, 0, 0);
        dueRecords(1, 0, 0);
        due("state(1, 0)", NOTHING);
    }

    private void prepareWhenRefused() {
        fresh("when REFUSED, it writes ABORTED, lets go and answers NO");
        run("begin(0)", "begin(0)", "work(1, 1, 1)", "work(0, 1, 0)", "work(0, 1, 1)", "commit(0)");
        due("state(1, 0)", REFUSED);
        due("deliver(0)", PREPARE);
        dueMessage(0, NO, 1, 0, 0);
        dueRecords(1, 1, 0);
        dueRecord(1, 0, 3, 0);
        dueLetGo(1, 0);
        due("holder(1, 1)", 1);
        due("work(1, 1, 0)", 1);
        due("holder(1, 0)", 1);
    }

    private void prepareHoldingNothing() {
        fresh("when WORKING and holding nothing, it lets go and answers READ");
        run("begin(0)", "work(0, 1, NONE)", "commit(0)");
        due("deliver(0)", PREPARE);
        dueMessage(0, READ, 1, 0, 0);
        dueLetGo(1, 0);
        dueRecords(1, 0, 0);
        due("forced(1)", 0);
    }

    private void prepareHoldingSomething() {
        for (int resources = 1; resources < 256; resources++) {
            fresh("when WORKING otherwise, it forces PREPARED, its state is PREPARED, and it answers YES");
            run("begin(0)");
            for (int r = 0; r < 8; r++) {
                run("work(0, 1, " + ((resources >> r & 1) == 1 ? r : NONE) + ")");
            }
            run("commit(0)");
            due("deliver(0)", PREPARE);
            dueMessage(0, YES, 1, 0, 0);
            dueRecord(1, 0, 1, resources);
            dueRecords(1, 1, 1);
            due("forced(1)", 1);
            due("state(1, 0)", PREPARED);
            for (int r = 0; r < 8; r++) {
                due("holder(1, " + r + ")", (resources >> r & 1) == 1 ? 0 : NONE);
            }
        }
    }

    private void commitInAnyState() {
        fresh("COMMIT: when PREPARED, it forces COMMITTED and lets go; and in any state it answers ACK then.");
        decided();
        run("expire(0, 0, false)");
        due("deliver(0)", COMMIT);
        dueMessage(3, ACK, 1, 0, 0);
        dueRecord(1, 1, 2, 0);
        dueRecords(1, 2, 2);
        dueLetGo(1, 0);
        due("deliver(1)", COMMIT);
        dueMessage(3, ACK, 1, 0, 0);
        dueRecords(1, 2, 2);
        due("forced(1)", 2);
        due("messages()", 4);
    }

    private void abortInEachState() {
        fresh("ABORT: when its state is not NOTHING, it writes ABORTED and lets go.");
        run("begin(0)", "work(0, 0, 0)", "work(0, 1, 1)", "work(0, 2, 2)", "work(0, 3, 3)");
        run("begin(0)", "work(1, 0, 0)", "work(1, 1, 5)", "work(1, 2, NONE)", "work(1, 3, 5)", "commit(1)");
        run("deliver(3)", "expire(1, 1, true)", "withdraw(1)");
        run("lose(0)", "lose(0)", "lose(0)", "lose(0)");
        due("messages()", 4);
        due("state(0, 1)", REFUSED);
        due("deliver(0)", ABORT);
        dueLetGo(0, 1);
        dueRecords(0, 2, 0);
        dueRecord(0, 1, 13, 0);
        dueRecords(1, 1, 0);
        due("state(1, 1)", NOTHING);
        due("deliver(0)", ABORT);
        dueRecords(1, 1, 0);
        due("state(2, 1)", WORKING);
        due("deliver(0)", ABORT);
        dueLetGo(2, 1);
        dueRecord(2, 0, 13, 0);
        due("state(3, 1)", PREPARED);
        due("deliver(0)", ABORT);
        dueLetGo(3, 1);
        dueRecord(3, 1, 13, 0);
        dueRecords(3, 2, 1);
        due("messages()", 0);
        due("holder(3, 3)", 0);
    }

    private void coordinatorsHear() {
        lateVotes();
        votesUntilAllHaveVoted();
        noneSaidYes();
        acks();
        inquiries();
    }

    private void lateVotes() {
        fresh("YES, READ, NO are heard when the stage is COLLECTING, otherwise they are as good as lost.");
        run("begin(0)", "work(0, 1, 1)", "work(0, 2, NONE)", "work(0, 3, 1)", "expire(3, 0, true)", "commit(0)");
        deliverFirst(3);
        run("withdraw(0)");
        String before = Snapshot.of(x).replaceAll("row:.*", "");
        due("deliver(0)", YES);
        due("deliver(0)", READ);
        due("deliver(0)", NO);
        check.due("what is asked", Snapshot.of(x).replaceAll("row:.*", ""), before);
        due("messages()", 3);
        dueMessage(0, ABORT, 0, 1, 0);
    }

    private void votesUntilAllHaveVoted() {
        for (int last = 0; last < 4; last++) {
            fresh("if all members are among those who said YES or READ then, the last vote that of node " + last);
            run("begin(0)", "work(0, 0, 0)", "work(0, 1, 0)", "work(0, 2, NONE)", "work(0, 3, 0)", "commit(0)");
            deliverFirst(4);
            int said = 0;
            for (int k = 3; k >= 0; k--) {
                if (k != last) {
                    run("deliver(" + k + ")");
                    said |= 1 << k;
                }
            }
            due("stage(0)", COLLECTING);
            dueSets(0, 15, said & 11, said & 4, 0);
            due("messages()", 1);
            due("deliver(0)", last == 2 ? READ : YES);
            due("stage(0)", COMMITTING);
            dueSets(0, 15, 11, 4, 11);
            dueRecord(0, 1, 4, 11);
            dueRecords(0, 2, 2);
            due("messages()", 3);
        }
    }

    private void noneSaidYes() {
        for (int members = 1; members < 16; members++) {
            fresh("if none said YES, it forgets the transaction; the members are " + members);
            run("begin(3)");
            for (int node = 0; node < 4; node++) {
                if ((members >> node & 1) == 1) {
                    run("work(0, " + node + ", NONE)");
                }
            }
            int count = Integer.bitCount(members);
            due("commit(0)", count);
            deliverFirst(2 * count - 1);
            due("stage(0)", COLLECTING);
            due("deliver(0)", READ);
            dueForgotten(0);
            due("messages()", 0);
            dueRecords(3, 0, 0);
        }
    }

    private void acks() {
        fresh("ACK, when the stage is COMMITTING: the sender is not due any more");
        decided();
        run("expire(0, 0, false)", "deliver(0)", "deliver(1)");
        dueMessage(2, ACK, 1, 0, 0);
        dueMessage(3, ACK, 1, 0, 0);
        due("deliver(2)", ACK);
        dueSets(0, 6, 6, 0, 4);
        due("deliver(2)", ACK);
        dueSets(0, 6, 6, 0, 4);
        due("stage(0)", COMMITTING);
        dueRecords(0, 1, 1);
        check.about("if none is due then, it writes ENDED and forgets the transaction");
        run("deliver(0)", "deliver(0)");
        due("deliver(0)", ACK);
        dueForgotten(0);
        dueRecords(0, 2, 1);
        dueRecord(0, 1, 6, 0);
        check.about("an ACK in another stage changes nothing");
        due("deliver(0)", ACK);
        dueForgotten(0);
        dueRecords(0, 2, 1);
        due("messages()", 0);
    }

    private void inquiries() {
        fresh("INQUIRY: when the stage is COMMITTING it answers COMMIT, when it is NOTHING it answers ABORT.");
        run("begin(0)", "work(0, 1, 5)", "work(0, 2, 5)", "commit(0)", "deliver(0)", "expire(1, 0, true)");
        due("deliver(2)", INQUIRY);
        due("messages()", 2);
        due("stage(0)", COLLECTING);
        run("deliver(0)", "deliver(0)", "deliver(0)", "lose(0)", "lose(0)", "expire(1, 0, true)");
        due("stage(0)", COMMITTING);
        due("deliver(0)", INQUIRY);
        due("messages()", 1);
        dueMessage(0, COMMIT, 0, 1, 0);
        run("begin(0)", "work(1, 3, 5)", "commit(1)", "deliver(1)", "withdraw(1)", "lose(1)", "lose(1)");
        run("expire(3, 1, true)");
        due("stage(1)", NOTHING);
        due("deliver(1)", INQUIRY);
        due("messages()", 2);
        dueMessage(1, ABORT, 0, 3, 1);
    }
}

/** For the sentence 'a message that is sent while 40 are there is lost': each way in which messages are sent. */
public final class FullRowTest extends Bench {
    public static void main(String[] args) {
        FullRowTest test = new FullRowTest();
        test.theFortiethIsNotLost();
        test.preparesAreLost();
        test.abortsAreLost();
        test.abortsAfterNoAreLost();
        test.abortsAfterExpireAreLost();
        test.commitsAfterTheLastVoteAreLost();
        test.commitsAfterExpireAreLost();
        test.commitsAfterRecoverAreLost();
        test.recoverSendsJustForty();
        test.answersFindTheFreedPlace();
        test.theLastPlaceIsTakenOut();
        test.check.finish();
    }

    private void full(String what) {
        fresh("a message that is sent while 40 are there is lost: " + what);
        prepareToFill();
    }

    private void theFortiethIsNotLost() {
        full("INQUIRY");
        run("begin(2)", "work(1, 1, 0)", "commit(1)", "deliver(0)", "lose(0)");
        fillRowTo(39);
        due("expire(1, 1, true)", 1);
        due("messages()", 40);
        dueMessage(39, INQUIRY, 1, 2, 1);
        String before = Snapshot.of(x);
        due("expire(3, 0, true)", 1);
        due("expire(1, 1, true)", 1);
        check.due("what is asked", Snapshot.of(x), before);
        due("lose(0)", INQUIRY);
        due("messages()", 39);
        dueMessage(38, INQUIRY, 1, 2, 1);
        due("expire(3, 0, true)", 1);
        due("messages()", 40);
        dueMessage(39, INQUIRY, 3, 3, 0);
    }

    private void preparesAreLost() {
        for (int there = 36; there <= 40; there++) {
            full("PREPARE with " + there + " there");
            run("begin(1)", "work(1, 0, 1)", "work(1, 1, 1)", "work(1, 2, 1)", "work(1, 3, 1)");
            fillRowTo(there);
            due("commit(1)", 4);
            due("stage(1)", COLLECTING);
            due("nodes(1, 0)", 15);
            dueLastKept(there, PREPARE, 1, 1, 15);
        }
    }

    /** The messages sent when so many were there are kept up to the fortieth, and those after it are lost. */
    private void dueLastKept(int there, int kind, int sender, int t, int receivers) {
        int kept = there;
        for (int node = 0; node < 4; node++) {
            if ((receivers >> node & 1) == 1 && kept < 40) {
                dueMessage(kept, kind, sender, node, t);
                kept++;
            }
        }
        due("messages()", kept);
        due("message(" + kept + ", 0)", BAD);
        due("message(" + (there - 1) + ", 0)", INQUIRY);
    }

    private void abortsAreLost() {
        for (int there = 37; there <= 40; there++) {
            full("ABORT with " + there + " there");
            run("begin(1)", "work(1, 0, 1)", "work(1, 2, 1)", "work(1, 3, 1)");
            fillRowTo(there);
            due("withdraw(1)", 3);
            dueForgotten(1);
            dueRecord(1, 0, 15, 0);
            dueLastKept(there, ABORT, 1, 1, 13);
        }
    }

    private void abortsAfterNoAreLost() {
        full("ABORT after a NO");
        run("begin(1)", "work(1, 0, 1)", "work(1, 2, 1)", "work(1, 3, 1)", "expire(2, 1, true)", "commit(1)");
        run("deliver(1)", "lose(0)", "lose(0)");
        dueMessage(0, NO, 2, 1, 1);
        fillRowTo(40);
        due("deliver(0)", NO);
        dueForgotten(1);
        dueRecord(1, 0, 15, 0);
        due("messages()", 40);
        dueMessage(39, ABORT, 1, 0, 1);
        dueMessage(38, INQUIRY, 3, 3, 0);
    }

    private void abortsAfterExpireAreLost() {
        for (int there = 38; there <= 40; there++) {
            full("ABORT after expire with " + there + " there");
            run("begin(1)", "work(1, 1, 1)", "work(1, 2, 1)", "commit(1)", "lose(0)", "lose(0)");
            fillRowTo(there);
            due("expire(1, 1, false)", 1);
            dueForgotten(1);
            dueRecord(1, 0, 15, 0);
            dueLastKept(there, ABORT, 1, 1, 6);
        }
    }

    private void commitsAfterTheLastVoteAreLost() {
        full("COMMIT after the last vote");
        run("begin(1)", "work(1, 1, 1)", "work(1, 2, 1)", "commit(1)");
        deliverFirst(3);
        dueMessage(0, YES, 2, 1, 1);
        fillRowTo(40);
        due("deliver(0)", YES);
        due("stage(1)", COMMITTING);
        dueSets(1, 6, 6, 0, 6);
        dueRecord(1, 1, 14, 6);
        due("messages()", 40);
        dueMessage(39, COMMIT, 1, 1, 1);
        dueMessage(38, INQUIRY, 3, 3, 0);
    }

    private void decidedBesides() {
        run("begin(1)", "work(1, 1, 1)", "work(1, 2, 1)", "commit(1)");
        deliverFirst(4);
        run("lose(0)", "lose(0)");
        due("stage(1)", COMMITTING);
    }

    private void commitsAfterExpireAreLost() {
        for (int there = 38; there <= 40; there++) {
            full("COMMIT after expire with " + there + " there");
            decidedBesides();
            fillRowTo(there);
            due("expire(1, 1, false)", 1);
            due("stage(1)", COMMITTING);
            dueLastKept(there, COMMIT, 1, 1, 6);
        }
    }

    private void commitsAfterRecoverAreLost() {
        for (int there = 38; there <= 40; there++) {
            full("COMMIT after recover with " + there + " there");
            decidedBesides();
            fillRowTo(there);
            due("crash(1)", 0);
            due("recover(1)", 2);
            due("stage(1)", COMMITTING);
            due("state(1, 1)", PREPARED);
            dueSets(1, 6, 6, 0, 6);
            dueLastKept(there, COMMIT, 1, 1, 6);
        }
    }

    private void recoverSendsJustForty() {
        fresh("a message that is sent while 40 are there is lost: recover sends four for each of ten transactions");
        for (int t = 0; t < 10; t++) {
            run("begin(0)");
            for (int node = 0; node < 4; node++) {
                run("work(" + t + ", " + node + ", 6)");
            }
            run("commit(" + t + ")");
            deliverFirst(12);
            for (int node = 0; node < 4; node++) {
                due("lose(0)", ACK);
            }
        }
        due("messages()", 0);
        due("crash(0)", 0);
        due("recover(0)", 10);
        due("messages()", 40);
        for (int k = 0; k < 40; k++) {
            dueMessage(k, COMMIT, 0, k % 4, k / 4);
        }
        due("lose(0)", COMMIT);
        run("crash(0)");
        due("recover(0)", 10);
        due("messages()", 40);
        dueMessage(38, COMMIT, 0, 3, 9);
        dueMessage(39, COMMIT, 0, 0, 0);
        for (int t = 0; t < 10; t++) {
            due("stage(" + t + ")", COMMITTING);
            dueSets(t, 15, 15, 0, 15);
        }
    }

    private void answersFindTheFreedPlace() {
        full("an answer to a message that was taken out finds a place");
        run("begin(1)", "work(1, 0, 1)", "work(1, 1, NONE)", "work(1, 2, 1)", "expire(2, 1, true)", "commit(1)");
        fillRowTo(40);
        due("deliver(0)", PREPARE);
        dueMessage(39, YES, 0, 1, 1);
        due("deliver(0)", PREPARE);
        dueMessage(39, READ, 1, 1, 1);
        due("deliver(0)", PREPARE);
        dueMessage(39, NO, 2, 1, 1);
        run("withdraw(1)", "expire(0, 1, true)");
        due("messages()", 40);
        dueMessage(39, NO, 2, 1, 1);
        due("lose(0)", INQUIRY);
        run("expire(0, 1, true)");
        due("deliver(39)", INQUIRY);
        dueMessage(39, ABORT, 1, 0, 1);
        full("ACK and COMMIT as answers");
        decidedBesides();
        run("expire(1, 1, false)", "expire(2, 1, true)");
        fillRowTo(40);
        due("deliver(2)", INQUIRY);
        dueMessage(39, COMMIT, 1, 2, 1);
        due("deliver(0)", COMMIT);
        dueMessage(39, ACK, 1, 1, 1);
        due("messages()", 40);
    }

    private void theLastPlaceIsTakenOut() {
        full("the last of forty is number 39");
        fillRowTo(40);
        refused("deliver(40)", BAD);
        refused("lose(40)", BAD);
        refused("message(40, 0)", BAD);
        due("message(39, 0)", INQUIRY);
        due("lose(39)", INQUIRY);
        due("messages()", 39);
        refused("lose(39)", BAD);
        refused("deliver(39)", BAD);
        due("deliver(38)", INQUIRY);
        due("messages()", 38);
    }
}

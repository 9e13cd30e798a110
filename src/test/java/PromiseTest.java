/** For each promise of the document: ordinary inputs, the edges that it names, and wrong inputs. */
public final class PromiseTest extends Bench {
    private static final int[] NUMBERS_OF_NOTHING = {-1, -2, 4, 10, Integer.MIN_VALUE, Integer.MAX_VALUE};

    public static void main(String[] args) {
        PromiseTest test = new PromiseTest();
        test.newObject();
        test.begin();
        test.workGrants();
        test.workRefuses();
        test.workIsTurnedAway();
        test.commit();
        test.withdraw();
        test.deliverTakesOut();
        test.membersHearPrepare();
        test.membersHearCommitAndAbort();
        test.coordinatorHearsVotes();
        test.coordinatorHearsAck();
        test.coordinatorHearsInquiry();
        test.lose();
        test.expireAsMember();
        test.expireAsCoordinator();
        test.expireIsTurnedAway();
        test.crash();
        test.recoverStates();
        test.recoverStages();
        test.recoverIsTurnedAway();
        test.up();
        test.stage();
        test.nodes();
        test.state();
        test.holder();
        test.records();
        test.entryAndContent();
        test.fullRowOfMessages();
        test.message();
        test.forced();
        test.check.finish();
    }

    private void newObject() {
        fresh("1 a new object");
        String node = "up held:-1,-1,-1,-1,-1,-1,-1,-1, log:0/0/0=";
        String all = " n0" + node + " n1" + node + " n2" + node + " n3" + node + " row:";
        check.due("all asking calls", Snapshot.of(x), all);
        check.due("stage(0)", x.stage(0), BAD);
        check.due("messages()", x.messages(), 0);
        AbsentMeansAbort other = new AbsentMeansAbort();
        other.begin(0);
        other.crash(1);
        check.due("stage(0) beside another object", x.stage(0), BAD);
        check.due("up(1) beside another object", x.up(1), true);
    }

    private void begin() {
        fresh("2 begin");
        for (int wrong : NUMBERS_OF_NOTHING) {
            check.due("begin(" + wrong + ")", x.begin(wrong), BAD);
        }
        x.crash(3);
        check.due("begin(3)", x.begin(3), DOWN);
        for (int t = 0; t < 10; t++) {
            check.due("stage(t)", x.stage(t), BAD);
            check.due("begin(t % 3)", x.begin(t % 3), t);
            check.due("stage(t)", x.stage(t), 1);
            dueSets(t, 0, 0, 0, 0);
        }
        String before = Snapshot.of(x);
        check.due("begin(0)", x.begin(0), FULL);
        check.due("begin(3) when down and full", x.begin(3), DOWN);
        check.due("begin(4) when full", x.begin(4), BAD);
        check.due("after refusals", Snapshot.of(x), before);
        check.due("stage(10)", x.stage(10), BAD);
        check.due("commit(9)", x.commit(9), 0);
        check.due("begin(0) after an end", x.begin(0), FULL);
    }

    private void workGrants() {
        fresh("3 work grants");
        x.begin(0);
        x.begin(0);
        check.due("work(0, 3, 7)", x.work(0, 3, 7), 1);
        check.due("work(0, 3, 0)", x.work(0, 3, 0), 1);
        check.due("work(0, 3, 7) again", x.work(0, 3, 7), 1);
        check.due("work(0, 3, NONE)", x.work(0, 3, NONE), 1);
        check.due("state(3, 0)", x.state(3, 0), 1);
        check.due("holder(3, 7)", x.holder(3, 7), 0);
        check.due("holder(3, 0)", x.holder(3, 0), 0);
        check.due("holder(3, 1)", x.holder(3, 1), NONE);
        check.due("work(1, 2, NONE)", x.work(1, 2, NONE), 1);
        check.due("state(2, 1)", x.state(2, 1), 1);
        check.due("work(1, 2, 7) the same resource elsewhere", x.work(1, 2, 7), 1);
        check.due("holder(2, 7)", x.holder(2, 7), 1);
        check.due("work(0, 0, 4) at the coordinator", x.work(0, 0, 4), 1);
        dueSets(0, 9, 0, 0, 0);
        dueSets(1, 4, 0, 0, 0);
        check.due("records(3, false)", x.records(3, false), 0);
        check.due("messages()", x.messages(), 0);
    }

    private void workRefuses() {
        fresh("3 work refuses");
        x.begin(0);
        x.begin(0);
        x.work(0, 1, 2);
        check.due("work(1, 1, 3)", x.work(1, 1, 3), 1);
        check.due("work(1, 1, 2)", x.work(1, 1, 2), 0);
        check.due("state(1, 1)", x.state(1, 1), 2);
        check.due("holder(1, 2)", x.holder(1, 2), 0);
        check.due("holder(1, 3) still held", x.holder(1, 3), 1);
        check.due("work(1, 1, 4) when refused", x.work(1, 1, 4), 0);
        check.due("holder(1, 4)", x.holder(1, 4), NONE);
        check.due("work(1, 1, 3) its own, when refused", x.work(1, 1, 3), 0);
        check.due("work(1, 1, NONE) when refused", x.work(1, 1, NONE), 0);
        x.begin(2);
        check.due("work(2, 1, 2) as the first work", x.work(2, 1, 2), 0);
        check.due("state(1, 2)", x.state(1, 2), 2);
        check.due("nodes(2, 0)", x.nodes(2, 0), 2);
        check.due("work(2, 3, 2) at another node", x.work(2, 3, 2), 1);
        check.due("work(0, 1, 3) held by one that is refused", x.work(0, 1, 3), 0);
        check.due("state(1, 0)", x.state(1, 0), 2);
    }

    private void workIsTurnedAway() {
        fresh("3 work is turned away");
        x.begin(0);
        x.begin(1);
        x.work(0, 2, 1);
        x.work(0, 3, 1);
        x.expire(2, 0, true);
        String before = Snapshot.of(x);
        check.due("work(2, 0, 0)", x.work(2, 0, 0), BAD);
        check.due("work(-1, 0, 0)", x.work(-1, 0, 0), BAD);
        check.due("work(0, 4, 0)", x.work(0, 4, 0), BAD);
        check.due("work(0, -1, 0)", x.work(0, -1, 0), BAD);
        check.due("work(0, 0, 8)", x.work(0, 0, 8), BAD);
        check.due("work(0, 0, -2)", x.work(0, 0, -2), BAD);
        check.due("work(0, 2, 1) a member with NOTHING", x.work(0, 2, 1), LATE);
        check.due("work(0, 2, 8) a member with NOTHING", x.work(0, 2, 8), BAD);
        check.due("after refusals", Snapshot.of(x), before);
        x.crash(2);
        check.due("work(0, 2, 1) node down", x.work(0, 2, 1), DOWN);
        check.due("work(0, 2, 8) node down", x.work(0, 2, 8), BAD);
        x.crash(1);
        check.due("work(1, 0, 0) coordinator down", x.work(1, 0, 0), DOWN);
        x.recover(1);
        check.due("work(1, 0, 0) coordinator forgot", x.work(1, 0, 0), LATE);
        x.commit(0);
        check.due("work(0, 3, 2) collecting", x.work(0, 3, 2), LATE);
        check.due("work(0, 0, 2) collecting", x.work(0, 0, 2), LATE);
        check.due("work(0, 2, 2) collecting, node down", x.work(0, 2, 2), DOWN);
        fresh("3 work when committing");
        decided();
        check.due("work(0, 3, 1)", x.work(0, 3, 1), LATE);
    }

    private void commit() {
        fresh("4 commit");
        check.due("commit(0)", x.commit(0), BAD);
        x.begin(2);
        check.due("commit(0) no members", x.commit(0), 0);
        check.due("stage(0)", x.stage(0), 0);
        check.due("records(2, false)", x.records(2, false), 0);
        check.due("messages()", x.messages(), 0);
        check.due("commit(0) again", x.commit(0), LATE);
        x.begin(2);
        x.work(1, 3, 1);
        x.work(1, 0, NONE);
        x.work(1, 2, 1);
        check.due("commit(1)", x.commit(1), 3);
        check.due("stage(1)", x.stage(1), 2);
        dueSets(1, 13, 0, 0, 0);
        check.due("messages()", x.messages(), 3);
        dueMessage(0, PREPARE, 2, 0, 1);
        dueMessage(1, PREPARE, 2, 2, 1);
        dueMessage(2, PREPARE, 2, 3, 1);
        check.due("commit(1) again", x.commit(1), LATE);
        check.due("messages()", x.messages(), 3);
        x.begin(1);
        x.crash(1);
        check.due("commit(2)", x.commit(2), DOWN);
        x.recover(1);
        check.due("commit(2) forgotten", x.commit(2), LATE);
        check.due("commit(-1)", x.commit(-1), BAD);
        check.due("commit(3)", x.commit(3), BAD);
        x.begin(3);
        x.work(3, 1, 1);
        x.crash(1);
        check.due("commit(3) with a member that is down", x.commit(3), 1);
        dueMessage(3, PREPARE, 3, 1, 3);
    }

    private void withdraw() {
        fresh("5 withdraw");
        check.due("withdraw(0)", x.withdraw(0), BAD);
        x.begin(1);
        check.due("withdraw(0) no members", x.withdraw(0), 0);
        dueRecord(1, 0, 5, 0);
        check.due("records(1, true)", x.records(1, true), 0);
        check.due("withdraw(0) again", x.withdraw(0), LATE);
        x.begin(1);
        x.work(1, 3, 0);
        x.work(1, 1, 0);
        check.due("withdraw(1) open", x.withdraw(1), 2);
        dueRecord(1, 1, 15, 0);
        dueMessage(0, ABORT, 1, 1, 1);
        dueMessage(1, ABORT, 1, 3, 1);
        check.due("stage(1)", x.stage(1), 0);
        dueSets(1, 0, 0, 0, 0);
        check.due("state(1, 1) until it hears", x.state(1, 1), 1);
        deliverFirst(2);
        x.begin(2);
        x.work(2, 0, NONE);
        x.work(2, 1, 1);
        x.work(2, 3, 1);
        x.commit(2);
        deliverFirst(2);
        x.deliver(1);
        check.due("nodes(2, 2)", x.nodes(2, 2), 1);
        x.deliver(1);
        check.due("nodes(2, 1)", x.nodes(2, 1), 2);
        check.due("withdraw(2) collecting, one said READ and one YES", x.withdraw(2), 2);
        dueSets(2, 0, 0, 0, 0);
        dueMessage(1, ABORT, 2, 1, 2);
        dueMessage(2, ABORT, 2, 3, 2);
        dueRecord(2, 0, 25, 0);
        check.due("forced(2)", x.forced(2), 0);
        x.begin(3);
        x.crash(3);
        check.due("withdraw(3)", x.withdraw(3), DOWN);
        check.due("withdraw(-1)", x.withdraw(-1), BAD);
        check.due("withdraw(4)", x.withdraw(4), BAD);
        fresh("5 withdraw when committing");
        decided();
        String before = Snapshot.of(x);
        check.due("withdraw(0)", x.withdraw(0), LATE);
        check.due("after a refusal", Snapshot.of(x), before);
    }

    private void deliverTakesOut() {
        fresh("6 deliver");
        check.due("deliver(0)", x.deliver(0), BAD);
        x.begin(0);
        x.work(0, 1, 0);
        x.work(0, 2, 0);
        x.work(0, 3, 0);
        x.commit(0);
        check.due("deliver(-1)", x.deliver(-1), BAD);
        check.due("deliver(3)", x.deliver(3), BAD);
        check.due("messages()", x.messages(), 3);
        x.crash(2);
        check.due("deliver(1) to one that is down", x.deliver(1), PREPARE);
        check.due("messages()", x.messages(), 2);
        dueMessage(0, PREPARE, 0, 1, 0);
        dueMessage(1, PREPARE, 0, 3, 0);
        check.due("deliver(0)", x.deliver(0), PREPARE);
        dueMessage(0, PREPARE, 0, 3, 0);
        dueMessage(1, YES, 1, 0, 0);
        x.recover(2);
        check.due("state(2, 0)", x.state(2, 0), 0);
    }

    private void membersHearPrepare() {
        fresh("6 members hear PREPARE");
        x.begin(0);
        x.begin(0);
        x.work(0, 1, 2);
        x.work(1, 1, 3);
        x.work(1, 1, 2);
        x.work(1, 2, NONE);
        x.work(1, 3, 7);
        x.work(1, 3, 0);
        x.work(1, 0, 1);
        x.expire(0, 1, true);
        check.due("commit(1)", x.commit(1), 4);
        x.deliver(0);
        dueMessage(3, NO, 0, 0, 1);
        check.due("records(0, false) NOTHING writes nothing", x.records(0, false), 1);
        x.deliver(0);
        dueMessage(3, NO, 1, 0, 1);
        dueRecord(1, 0, 13, 0);
        check.due("records(1, true)", x.records(1, true), 0);
        check.due("state(1, 1)", x.state(1, 1), 0);
        check.due("holder(1, 3)", x.holder(1, 3), NONE);
        check.due("holder(1, 2)", x.holder(1, 2), 0);
        x.deliver(0);
        dueMessage(3, READ, 2, 0, 1);
        check.due("records(2, false)", x.records(2, false), 0);
        check.due("state(2, 1)", x.state(2, 1), 0);
        x.deliver(0);
        dueMessage(3, YES, 3, 0, 1);
        dueRecord(3, 0, 11, 129);
        check.due("records(3, true)", x.records(3, true), 1);
        check.due("state(3, 1)", x.state(3, 1), 3);
        check.due("holder(3, 7)", x.holder(3, 7), 1);
        check.due("forced(3)", x.forced(3), 1);
        fresh("6 a REFUSED member that holds nothing");
        x.begin(0);
        x.begin(0);
        x.work(0, 1, 2);
        x.work(1, 1, 2);
        x.commit(1);
        x.deliver(0);
        dueMessage(0, NO, 1, 0, 1);
        dueRecord(1, 0, 13, 0);
    }

    private void membersHearCommitAndAbort() {
        fresh("6 members hear COMMIT");
        decided();
        check.due("deliver(0)", x.deliver(0), COMMIT);
        dueRecord(1, 1, 2, 0);
        check.due("records(1, true)", x.records(1, true), 2);
        check.due("state(1, 0)", x.state(1, 0), 0);
        check.due("holder(1, 5)", x.holder(1, 5), NONE);
        dueMessage(1, ACK, 1, 0, 0);
        x.expire(0, 0, false);
        check.due("deliver(2) a second COMMIT", x.deliver(2), COMMIT);
        check.due("records(1, false)", x.records(1, false), 2);
        dueMessage(3, ACK, 1, 0, 0);
        check.due("forced(1)", x.forced(1), 2);
        fresh("6 members hear ABORT");
        x.begin(0);
        x.begin(0);
        x.work(0, 1, 1);
        x.work(1, 1, 1);
        x.work(0, 2, 1);
        x.withdraw(1);
        check.due("deliver(0) to a REFUSED one", x.deliver(0), ABORT);
        dueRecord(1, 0, 13, 0);
        x.commit(0);
        deliverFirst(1);
        check.due("state(1, 0)", x.state(1, 0), 3);
        x.withdraw(0);
        check.due("deliver(2) to a PREPARED one", x.deliver(2), ABORT);
        dueRecord(1, 2, 3, 0);
        check.due("records(1, true)", x.records(1, true), 2);
        check.due("state(1, 0)", x.state(1, 0), 0);
        check.due("holder(1, 1)", x.holder(1, 1), NONE);
        check.due("messages() ABORT has no answer", x.messages(), 3);
        x.expire(2, 0, true);
        check.due("records(2, false)", x.records(2, false), 1);
        check.due("deliver(2) to one with NOTHING", x.deliver(2), ABORT);
        check.due("records(2, false)", x.records(2, false), 1);
    }

    private void coordinatorHearsVotes() {
        fresh("6 the coordinator hears votes");
        x.begin(3);
        x.work(0, 0, NONE);
        x.work(0, 1, 1);
        x.work(0, 2, 1);
        x.commit(0);
        deliverFirst(3);
        check.due("deliver(2)", x.deliver(2), YES);
        dueSets(0, 7, 4, 0, 0);
        check.due("deliver(0)", x.deliver(0), READ);
        dueSets(0, 7, 4, 1, 0);
        check.due("records(3, false)", x.records(3, false), 0);
        check.due("deliver(0)", x.deliver(0), YES);
        dueSets(0, 7, 6, 1, 6);
        check.due("stage(0)", x.stage(0), 3);
        dueRecord(3, 0, 4, 6);
        check.due("records(3, true)", x.records(3, true), 1);
        check.due("messages()", x.messages(), 2);
        dueMessage(0, COMMIT, 3, 1, 0);
        dueMessage(1, COMMIT, 3, 2, 0);
        fresh("6 the last vote is READ");
        x.begin(3);
        x.work(0, 0, 1);
        x.work(0, 1, NONE);
        x.commit(0);
        deliverFirst(4);
        check.due("stage(0)", x.stage(0), 3);
        dueSets(0, 3, 1, 2, 1);
        fresh("6 all said READ");
        x.begin(3);
        x.work(0, 0, NONE);
        x.work(0, 1, NONE);
        x.commit(0);
        deliverFirst(4);
        check.due("stage(0)", x.stage(0), 0);
        dueSets(0, 0, 0, 0, 0);
        check.due("records(3, false)", x.records(3, false), 0);
        check.due("messages()", x.messages(), 0);
        coordinatorHearsNo();
        votesAsGoodAsLost();
    }

    private void coordinatorHearsNo() {
        fresh("6 the coordinator hears NO");
        x.begin(0);
        x.work(0, 0, 4);
        x.work(0, 1, NONE);
        x.work(0, 2, 4);
        x.work(0, 3, 4);
        x.expire(2, 0, true);
        x.commit(0);
        deliverFirst(4);
        check.due("deliver(1)", x.deliver(1), READ);
        check.due("deliver(1)", x.deliver(1), NO);
        check.due("stage(0)", x.stage(0), 0);
        dueSets(0, 0, 0, 0, 0);
        dueRecord(0, 1, 5, 0);
        check.due("records(0, true)", x.records(0, true), 1);
        check.due("messages()", x.messages(), 4);
        dueMessage(2, ABORT, 0, 0, 0);
        dueMessage(3, ABORT, 0, 3, 0);
    }

    private void votesAsGoodAsLost() {
        fresh("6 votes as good as lost");
        x.begin(0);
        x.begin(0);
        x.work(0, 1, 1);
        x.work(1, 1, 2);
        x.work(1, 2, 2);
        x.expire(2, 1, true);
        x.commit(0);
        x.commit(1);
        deliverFirst(3);
        x.withdraw(0);
        x.withdraw(1);
        check.due("deliver(0) YES when forgotten", x.deliver(0), YES);
        check.due("deliver(0) YES when forgotten", x.deliver(0), YES);
        check.due("deliver(0) NO when forgotten", x.deliver(0), NO);
        check.due("stage(0)", x.stage(0), 0);
        dueSets(0, 0, 0, 0, 0);
        check.due("records(0, false)", x.records(0, false), 2);
        check.due("messages()", x.messages(), 3);
    }

    private void coordinatorHearsAck() {
        fresh("6 the coordinator hears ACK");
        decided();
        x.deliver(1);
        check.due("deliver(1)", x.deliver(1), ACK);
        dueSets(0, 6, 6, 0, 2);
        check.due("stage(0)", x.stage(0), 3);
        check.due("records(0, false)", x.records(0, false), 1);
        x.deliver(0);
        check.due("deliver(0)", x.deliver(0), ACK);
        check.due("stage(0)", x.stage(0), 0);
        dueSets(0, 0, 0, 0, 0);
        dueRecord(0, 1, 6, 0);
        check.due("records(0, false)", x.records(0, false), 2);
        check.due("records(0, true)", x.records(0, true), 1);
        fresh("6 ACK twice");
        decided();
        x.expire(0, 0, false);
        x.deliver(0);
        x.deliver(1);
        deliverFirst(1);
        x.deliver(1);
        check.due("stage(0)", x.stage(0), 3);
        x.deliver(1);
        check.due("nodes(0, 3)", x.nodes(0, 3), 4);
        x.deliver(0);
        deliverFirst(5);
        check.due("stage(0)", x.stage(0), 0);
        check.due("messages()", x.messages(), 0);
        check.due("records(0, false) ACK when forgotten", x.records(0, false), 2);
    }

    private void coordinatorHearsInquiry() {
        fresh("6 the coordinator hears INQUIRY");
        x.begin(0);
        x.work(0, 1, 5);
        x.work(0, 2, 5);
        x.commit(0);
        x.deliver(0);
        x.expire(1, 0, true);
        check.due("deliver(2) collecting", x.deliver(2), INQUIRY);
        check.due("messages() no answer", x.messages(), 2);
        check.due("stage(0)", x.stage(0), 2);
        deliverFirst(3);
        x.lose(0);
        x.expire(1, 0, true);
        check.due("deliver(1) committing", x.deliver(1), INQUIRY);
        dueMessage(1, COMMIT, 0, 1, 0);
        x.crash(1);
        x.recover(1);
        x.expire(1, 0, true);
        x.deliver(0);
        x.deliver(0);
        x.deliver(1);
        check.due("deliver(1)", x.deliver(1), ACK);
        check.due("stage(0)", x.stage(0), 0);
        fresh("6 INQUIRY when forgotten");
        x.begin(0);
        x.work(0, 1, 5);
        x.commit(0);
        x.deliver(0);
        x.withdraw(0);
        x.lose(1);
        x.expire(1, 0, true);
        check.due("deliver(1)", x.deliver(1), INQUIRY);
        dueMessage(1, ABORT, 0, 1, 0);
        check.due("deliver(1)", x.deliver(1), ABORT);
        check.due("state(1, 0)", x.state(1, 0), 0);
        check.due("records(0, false)", x.records(0, false), 1);
    }

    private void lose() {
        fresh("7 lose");
        check.due("lose(0)", x.lose(0), BAD);
        x.begin(0);
        x.work(0, 1, 5);
        x.work(0, 2, 5);
        x.work(0, 3, 5);
        x.commit(0);
        check.due("lose(-1)", x.lose(-1), BAD);
        check.due("lose(3)", x.lose(3), BAD);
        check.due("lose(1)", x.lose(1), PREPARE);
        check.due("messages()", x.messages(), 2);
        dueMessage(0, PREPARE, 0, 1, 0);
        dueMessage(1, PREPARE, 0, 3, 0);
        check.due("state(2, 0)", x.state(2, 0), 1);
        x.deliver(1);
        check.due("lose(1)", x.lose(1), YES);
        check.due("nodes(0, 1)", x.nodes(0, 1), 0);
        check.due("lose(0)", x.lose(0), PREPARE);
        check.due("messages()", x.messages(), 0);
    }

    private void expireAsMember() {
        fresh("8 expire as a member");
        x.begin(0);
        x.begin(2);
        x.work(0, 1, 1);
        x.work(1, 1, 1);
        x.work(0, 2, 1);
        x.work(1, 3, NONE);
        check.due("expire(1, 1, true) refused", x.expire(1, 1, true), 1);
        dueRecord(1, 0, 13, 0);
        check.due("state(1, 1)", x.state(1, 1), 0);
        check.due("expire(1, 0, true) working", x.expire(1, 0, true), 1);
        dueRecord(1, 1, 3, 0);
        check.due("holder(1, 1)", x.holder(1, 1), NONE);
        check.due("records(1, true)", x.records(1, true), 0);
        check.due("expire(3, 1, true) holding nothing", x.expire(3, 1, true), 1);
        dueRecord(3, 0, 13, 0);
        check.due("messages()", x.messages(), 0);
        check.due("nodes(0, 0)", x.nodes(0, 0), 6);
        x.commit(0);
        x.deliver(1);
        check.due("expire(2, 0, true) prepared", x.expire(2, 0, true), 1);
        dueMessage(2, INQUIRY, 2, 0, 0);
        check.due("state(2, 0)", x.state(2, 0), 3);
        check.due("records(2, false)", x.records(2, false), 1);
        x.crash(0);
        check.due("expire(2, 0, true) the coordinator is down", x.expire(2, 0, true), 1);
        dueMessage(3, INQUIRY, 2, 0, 0);
        fresh("8 a coordinator that asks itself");
        x.begin(1);
        x.work(0, 1, 0);
        x.commit(0);
        x.deliver(0);
        check.due("expire(1, 0, true)", x.expire(1, 0, true), 1);
        dueMessage(1, INQUIRY, 1, 1, 0);
    }

    private void expireAsCoordinator() {
        fresh("8 expire as the coordinator, collecting");
        x.begin(0);
        x.work(0, 0, NONE);
        x.work(0, 1, 1);
        x.work(0, 3, 1);
        x.commit(0);
        x.deliver(0);
        x.deliver(2);
        check.due("expire(0, 0, false)", x.expire(0, 0, false), 1);
        check.due("stage(0)", x.stage(0), 0);
        dueRecord(0, 0, 5, 0);
        check.due("messages()", x.messages(), 4);
        dueMessage(2, ABORT, 0, 1, 0);
        dueMessage(3, ABORT, 0, 3, 0);
        fresh("8 expire as the coordinator, committing");
        decided();
        x.deliver(0);
        x.deliver(1);
        x.lose(0);
        check.due("messages()", x.messages(), 0);
        check.due("expire(0, 0, false)", x.expire(0, 0, false), 1);
        check.due("messages() only to the one due", x.messages(), 1);
        dueMessage(0, COMMIT, 0, 2, 0);
        check.due("stage(0)", x.stage(0), 3);
        check.due("records(0, false)", x.records(0, false), 1);
    }

    private void expireIsTurnedAway() {
        fresh("8 expire is turned away");
        check.due("expire(0, 0, true)", x.expire(0, 0, true), BAD);
        check.due("expire(0, 0, false)", x.expire(0, 0, false), BAD);
        x.begin(0);
        x.work(0, 1, 1);
        String before = Snapshot.of(x);
        for (int wrong : NUMBERS_OF_NOTHING) {
            check.due("expire(" + wrong + ", 0, true)", x.expire(wrong, 0, true), BAD);
            check.due("expire(" + wrong + ", 0, false)", x.expire(wrong, 0, false), BAD);
            check.due("expire(0, " + wrong + ", true)", x.expire(0, wrong, true), BAD);
            check.due("expire(0, " + wrong + ", false)", x.expire(0, wrong, false), BAD);
        }
        check.due("expire(1, 0, false) not the coordinator", x.expire(1, 0, false), BAD);
        check.due("expire(0, 0, false) open", x.expire(0, 0, false), LATE);
        check.due("expire(0, 0, true) no member", x.expire(0, 0, true), LATE);
        check.due("after refusals", Snapshot.of(x), before);
        x.crash(1);
        check.due("expire(1, 0, true)", x.expire(1, 0, true), DOWN);
        check.due("expire(1, 0, false)", x.expire(1, 0, false), BAD);
        x.recover(1);
        check.due("expire(1, 0, true) lost it", x.expire(1, 0, true), LATE);
        x.crash(0);
        check.due("expire(0, 0, false)", x.expire(0, 0, false), DOWN);
        x.recover(0);
        check.due("expire(0, 0, false) lost it", x.expire(0, 0, false), LATE);
    }

    private void crash() {
        fresh("9 crash");
        for (int wrong : NUMBERS_OF_NOTHING) {
            check.due("crash(" + wrong + ")", x.crash(wrong), BAD);
        }
        x.begin(1);
        x.begin(1);
        x.begin(2);
        x.work(2, 1, 6);
        x.work(0, 1, 2);
        x.work(0, 2, 2);
        x.work(1, 1, 3);
        x.commit(0);
        x.deliver(0);
        x.deliver(1);
        x.withdraw(1);
        x.expire(1, 1, true);
        check.due("records(1, false)", x.records(1, false), 3);
        check.due("messages()", x.messages(), 2);
        check.due("crash(1)", x.crash(1), 2);
        check.due("up(1)", x.up(1), false);
        check.due("records(1, false)", x.records(1, false), 1);
        check.due("records(1, true)", x.records(1, true), 1);
        dueRecord(1, 0, 1, 4);
        check.due("entry(1, 1)", x.entry(1, 1), NONE);
        check.due("stage(0)", x.stage(0), 0);
        dueSets(0, 0, 0, 0, 0);
        check.due("state(1, 0)", x.state(1, 0), 0);
        check.due("state(1, 2)", x.state(1, 2), 0);
        check.due("holder(1, 2)", x.holder(1, 2), NONE);
        check.due("holder(1, 6)", x.holder(1, 6), NONE);
        check.due("forced(1)", x.forced(1), 1);
        check.due("messages()", x.messages(), 2);
        check.due("state(2, 0) elsewhere", x.state(2, 0), 1);
        check.due("stage(2) elsewhere", x.stage(2), 1);
        check.due("nodes(2, 0) elsewhere", x.nodes(2, 0), 2);
        check.due("crash(1) again", x.crash(1), DOWN);
        fresh("9 crash when committing");
        decided();
        check.due("nodes(0, 3)", x.nodes(0, 3), 6);
        check.due("crash(0)", x.crash(0), 0);
        check.due("stage(0)", x.stage(0), 0);
        dueSets(0, 0, 0, 0, 0);
        fresh("9 crash and 10 recover with ten transactions");
        for (int t = 0; t < 10; t++) {
            x.begin(0);
        }
        x.work(9, 0, 0);
        x.commit(9);
        deliverFirst(2);
        check.due("crash(0)", x.crash(0), 0);
        check.due("stage(9)", x.stage(9), 0);
        check.due("state(0, 9)", x.state(0, 9), 0);
        check.due("recover(0)", x.recover(0), 2);
        check.due("stage(9)", x.stage(9), 3);
        check.due("state(0, 9)", x.state(0, 9), 3);
        check.due("stage(8)", x.stage(8), 0);
    }

    private void recoverStates() {
        fresh("10 recover states");
        x.begin(0);
        x.begin(0);
        x.begin(0);
        x.work(0, 3, 0);
        x.work(1, 3, 1);
        x.work(1, 3, 7);
        x.work(2, 3, 2);
        x.work(0, 2, 0);
        x.commit(0);
        x.commit(1);
        x.deliver(1);
        x.deliver(1);
        x.crash(3);
        check.due("recover(3)", x.recover(3), 2);
        check.due("up(3)", x.up(3), true);
        check.due("state(3, 0)", x.state(3, 0), 3);
        check.due("state(3, 1)", x.state(3, 1), 3);
        check.due("state(3, 2) never prepared", x.state(3, 2), 0);
        check.due("holder(3, 0)", x.holder(3, 0), 0);
        check.due("holder(3, 1)", x.holder(3, 1), 1);
        check.due("holder(3, 7)", x.holder(3, 7), 1);
        check.due("holder(3, 2)", x.holder(3, 2), NONE);
        x.deliver(2);
        check.due("stage(1)", x.stage(1), 3);
        x.deliver(2);
        check.due("state(3, 1) committed", x.state(3, 1), 0);
        x.withdraw(0);
        check.due("deliver(4)", x.deliver(4), ABORT);
        check.due("state(3, 0) aborted", x.state(3, 0), 0);
        check.due("crash(3) loses ABORTED", x.crash(3), 1);
        check.due("recover(3)", x.recover(3), 1);
        check.due("state(3, 0)", x.state(3, 0), 3);
        check.due("state(3, 1) stays committed", x.state(3, 1), 0);
        check.due("holder(3, 7)", x.holder(3, 7), NONE);
        abortedMadeSafe();
    }

    private void abortedMadeSafe() {
        fresh("10 an ABORTED that a later force made safe");
        x.begin(0);
        x.begin(0);
        x.work(0, 1, 3);
        x.commit(0);
        x.deliver(0);
        x.withdraw(0);
        x.deliver(1);
        x.work(1, 1, 3);
        x.commit(1);
        x.deliver(1);
        check.due("records(1, true)", x.records(1, true), 3);
        check.due("crash(1)", x.crash(1), 0);
        check.due("recover(1)", x.recover(1), 1);
        check.due("state(1, 0)", x.state(1, 0), 0);
        check.due("state(1, 1)", x.state(1, 1), 3);
        check.due("holder(1, 3)", x.holder(1, 3), 1);
    }

    private void recoverStages() {
        fresh("10 recover stages");
        x.begin(2);
        x.begin(2);
        for (int t = 0; t < 2; t++) {
            x.work(t, 0, NONE);
            x.work(t, 2, t);
            x.work(t, 3, t);
            x.commit(t);
            deliverFirst(6);
            x.lose(0);
            x.lose(0);
        }
        check.due("messages()", x.messages(), 0);
        x.expire(2, 0, false);
        x.deliver(1);
        x.deliver(1);
        x.lose(0);
        dueSets(0, 13, 12, 1, 4);
        check.due("crash(2)", x.crash(2), 0);
        check.due("recover(2)", x.recover(2), 4);
        check.due("stage(0)", x.stage(0), 3);
        check.due("stage(1)", x.stage(1), 3);
        dueSets(0, 12, 12, 0, 12);
        check.due("messages()", x.messages(), 4);
        dueMessage(0, COMMIT, 2, 2, 0);
        dueMessage(1, COMMIT, 2, 3, 0);
        dueMessage(2, COMMIT, 2, 2, 1);
        dueMessage(3, COMMIT, 2, 3, 1);
        deliverFirst(6);
        check.due("stage(0)", x.stage(0), 0);
        check.due("stage(1)", x.stage(1), 3);
        check.due("crash(2) loses ENDED", x.crash(2), 1);
        check.due("recover(2)", x.recover(2), 2);
        check.due("stage(0)", x.stage(0), 3);
        check.due("state(2, 0)", x.state(2, 0), 0);
        endedMadeSafe();
    }

    private void endedMadeSafe() {
        fresh("10 an ENDED that a later force made safe");
        decided();
        deliverFirst(4);
        check.due("entry(0, 1)", x.entry(0, 1), 6);
        x.begin(1);
        x.work(1, 0, 0);
        x.commit(1);
        x.deliver(0);
        check.due("records(0, true)", x.records(0, true), 3);
        x.lose(0);
        check.due("crash(0)", x.crash(0), 0);
        check.due("recover(0)", x.recover(0), 1);
        check.due("stage(0)", x.stage(0), 0);
        check.due("state(0, 1)", x.state(0, 1), 3);
        check.due("messages()", x.messages(), 0);
    }

    private void recoverIsTurnedAway() {
        fresh("10 recover is turned away");
        for (int wrong : NUMBERS_OF_NOTHING) {
            check.due("recover(" + wrong + ")", x.recover(wrong), BAD);
        }
        decided();
        String before = Snapshot.of(x);
        check.due("recover(0) when up", x.recover(0), LATE);
        check.due("after a refusal", Snapshot.of(x), before);
        x.crash(3);
        check.due("recover(3) with nothing", x.recover(3), 0);
        check.due("up(3)", x.up(3), true);
    }

    private void up() {
        fresh("11 up");
        for (int wrong : NUMBERS_OF_NOTHING) {
            check.due("up(" + wrong + ")", x.up(wrong), false);
        }
        x.crash(2);
        for (int node = 0; node < 4; node++) {
            check.due("up(" + node + ")", x.up(node), node != 2);
        }
        x.recover(2);
        check.due("up(2)", x.up(2), true);
    }

    private void stage() {
        fresh("12 stage");
        check.due("stage(0)", x.stage(0), BAD);
        x.begin(0);
        check.due("stage(0)", x.stage(0), 1);
        check.due("stage(1)", x.stage(1), BAD);
        check.due("stage(-1)", x.stage(-1), BAD);
        x.work(0, 1, 1);
        x.commit(0);
        check.due("stage(0)", x.stage(0), 2);
        deliverFirst(2);
        check.due("stage(0)", x.stage(0), 3);
        deliverFirst(2);
        check.due("stage(0)", x.stage(0), 0);
    }

    private void nodes() {
        fresh("13 nodes");
        check.due("nodes(0, 0)", x.nodes(0, 0), BAD);
        x.begin(0);
        for (int node = 0; node < 4; node++) {
            x.work(0, node, node == 3 ? NONE : node);
        }
        x.commit(0);
        deliverFirst(8);
        dueSets(0, 15, 7, 8, 7);
        check.due("nodes(0, -1)", x.nodes(0, -1), BAD);
        check.due("nodes(0, 4)", x.nodes(0, 4), BAD);
        check.due("nodes(1, 0)", x.nodes(1, 0), BAD);
        check.due("nodes(-1, 0)", x.nodes(-1, 0), BAD);
    }

    private void state() {
        fresh("14 state");
        check.due("state(0, 0)", x.state(0, 0), BAD);
        x.begin(0);
        check.due("state(3, 0)", x.state(3, 0), 0);
        x.work(0, 3, 0);
        check.due("state(3, 0)", x.state(3, 0), 1);
        check.due("state(2, 0)", x.state(2, 0), 0);
        for (int wrong : NUMBERS_OF_NOTHING) {
            check.due("state(" + wrong + ", 0)", x.state(wrong, 0), BAD);
            check.due("state(0, " + wrong + ")", x.state(0, wrong), BAD);
        }
    }

    private void holder() {
        fresh("15 holder");
        check.due("holder(0, 0) without transactions", x.holder(0, 0), NONE);
        for (int t = 0; t < 10; t++) {
            x.begin(0);
        }
        x.work(9, 3, 7);
        x.work(4, 3, 0);
        check.due("holder(3, 7)", x.holder(3, 7), 9);
        check.due("holder(3, 0)", x.holder(3, 0), 4);
        check.due("holder(3, 1)", x.holder(3, 1), NONE);
        check.due("holder(2, 7)", x.holder(2, 7), NONE);
        check.due("holder(3, 8)", x.holder(3, 8), BAD);
        check.due("holder(3, -1)", x.holder(3, -1), BAD);
        for (int wrong : NUMBERS_OF_NOTHING) {
            check.due("holder(" + wrong + ", 7)", x.holder(wrong, 7), BAD);
        }
    }

    private void records() {
        fresh("16 records");
        for (int wrong : NUMBERS_OF_NOTHING) {
            check.due("records(" + wrong + ", true)", x.records(wrong, true), BAD);
            check.due("records(" + wrong + ", false)", x.records(wrong, false), BAD);
        }
        x.begin(0);
        x.withdraw(0);
        check.due("records(0, false)", x.records(0, false), 1);
        check.due("records(0, true)", x.records(0, true), 0);
        x.begin(1);
        x.work(1, 0, 1);
        x.commit(1);
        x.deliver(0);
        check.due("records(0, false)", x.records(0, false), 2);
        check.due("records(0, true)", x.records(0, true), 2);
        x.begin(0);
        x.withdraw(2);
        check.due("records(0, false)", x.records(0, false), 3);
        check.due("records(0, true)", x.records(0, true), 2);
        check.due("records(1, false)", x.records(1, false), 0);
    }

    private void entryAndContent() {
        fresh("17 entry and 18 content");
        for (int t = 0; t < 10; t++) {
            x.begin(3);
        }
        x.work(9, 3, 7);
        x.work(9, 3, 1);
        x.work(9, 0, 0);
        x.commit(9);
        deliverFirst(8);
        x.work(8, 3, 1);
        x.expire(3, 8, true);
        x.withdraw(8);
        int[] entries = {91, 94, 92, 96, 83, 85};
        int[] contents = {130, 9, 0, 0, 0, 0};
        check.due("records(3, false)", x.records(3, false), entries.length);
        for (int k = 0; k < entries.length; k++) {
            dueRecord(3, k, entries[k], contents[k]);
        }
        dueRecord(3, entries.length, NONE, NONE);
        dueRecord(3, -1, NONE, NONE);
        dueRecord(3, Integer.MAX_VALUE, NONE, NONE);
        dueRecord(3, Integer.MIN_VALUE, NONE, NONE);
        for (int wrong : NUMBERS_OF_NOTHING) {
            dueRecord(wrong, 0, BAD, BAD);
            dueRecord(wrong, -1, BAD, BAD);
        }
    }

    private void fullRowOfMessages() {
        fresh("19 messages, and what a full row does");
        x.begin(0);
        x.begin(0);
        x.work(0, 1, 1);
        x.work(1, 1, 2);
        x.work(1, 2, 2);
        x.work(1, 3, 2);
        x.commit(0);
        x.deliver(0);
        check.due("messages()", x.messages(), 1);
        for (int count = 2; count <= 38; count++) {
            check.due("expire(1, 0, true)", x.expire(1, 0, true), 1);
            check.due("messages()", x.messages(), count);
        }
        check.due("commit(1) with two places left", x.commit(1), 3);
        check.due("messages()", x.messages(), 40);
        dueMessage(38, PREPARE, 0, 1, 1);
        dueMessage(39, PREPARE, 0, 2, 1);
        check.due("message(40, 0)", x.message(40, 0), BAD);
        check.due("deliver(40)", x.deliver(40), BAD);
        check.due("expire(1, 0, true) lost", x.expire(1, 0, true), 1);
        check.due("messages()", x.messages(), 40);
        dueMessage(39, PREPARE, 0, 2, 1);
        check.due("deliver(39) its own place takes the answer", x.deliver(39), PREPARE);
        dueMessage(39, YES, 2, 0, 1);
        check.due("withdraw(1) all lost", x.withdraw(1), 3);
        check.due("messages()", x.messages(), 40);
        dueMessage(39, YES, 2, 0, 1);
        check.due("lose(0)", x.lose(0), YES);
        check.due("messages()", x.messages(), 39);
        dueMessage(38, YES, 2, 0, 1);
        check.due("deliver(0) collecting, no answer", x.deliver(0), INQUIRY);
        check.due("messages()", x.messages(), 38);
    }

    private void message() {
        fresh("20 message");
        check.due("message(0, 0)", x.message(0, 0), BAD);
        x.begin(3);
        x.begin(2);
        x.work(1, 1, 1);
        x.commit(1);
        dueMessage(0, PREPARE, 2, 1, 1);
        for (int wrong : NUMBERS_OF_NOTHING) {
            check.due("message(0, " + wrong + ")", x.message(0, wrong), BAD);
            check.due("message(" + wrong + ", 0)", x.message(wrong, 0), BAD);
        }
        check.due("message(1, 0)", x.message(1, 0), BAD);
        check.due("messages() asking takes nothing out", x.messages(), 1);
    }

    private void forced() {
        fresh("21 forced");
        for (int wrong : NUMBERS_OF_NOTHING) {
            check.due("forced(" + wrong + ")", x.forced(wrong), BAD);
        }
        decided();
        check.due("forced(0) DECIDED", x.forced(0), 1);
        check.due("forced(1) PREPARED", x.forced(1), 1);
        deliverFirst(4);
        check.due("forced(0) ENDED is only written", x.forced(0), 1);
        check.due("forced(1) COMMITTED", x.forced(1), 2);
        x.begin(1);
        x.withdraw(1);
        check.due("forced(1) WITHDRAWN is only written", x.forced(1), 2);
        x.crash(1);
        check.due("forced(1) outlives a crash", x.forced(1), 2);
        x.recover(1);
        check.due("forced(1)", x.forced(1), 2);
        check.due("forced(3)", x.forced(3), 0);
    }
}

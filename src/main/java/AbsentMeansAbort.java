public final class AbsentMeansAbort {
    public static final int NONE = -1;
    public static final int BAD = -2;
    public static final int DOWN = -3;
    public static final int LATE = -4;
    public static final int FULL = -5;

    private static final int NODE_COUNT = 4;
    private static final int RESOURCE_COUNT = 8;
    private static final int TRANSACTION_LIMIT = 10;
    private static final int MESSAGE_LIMIT = 40;
    // No row ever has two records of the same kind and transaction: a state or stage that a record ended
    // comes back only after a crash that lost that record. So six kinds of ten transactions always fit.
    private static final int RECORD_LIMIT = 60;
    private static final int NO_NODES = 0;

    private static final int STATE_NOTHING = 0;
    private static final int STATE_WORKING = 1;
    private static final int STATE_REFUSED = 2;
    private static final int STATE_PREPARED = 3;

    private static final int STAGE_NOTHING = 0;
    private static final int STAGE_OPEN = 1;
    private static final int STAGE_COLLECTING = 2;
    private static final int STAGE_COMMITTING = 3;

    private static final int RECORD_PREPARED = 1;
    private static final int RECORD_COMMITTED = 2;
    private static final int RECORD_ABORTED = 3;
    private static final int RECORD_DECIDED = 4;
    private static final int RECORD_WITHDRAWN = 5;
    private static final int RECORD_ENDED = 6;

    private static final int MESSAGE_PREPARE = 1;
    private static final int MESSAGE_YES = 2;
    private static final int MESSAGE_READ = 3;
    private static final int MESSAGE_NO = 4;
    private static final int MESSAGE_COMMIT = 5;
    private static final int MESSAGE_ABORT = 6;
    private static final int MESSAGE_ACK = 7;
    private static final int MESSAGE_INQUIRY = 8;

    private static final int PART_KIND = 0;
    private static final int PART_SENDER = 1;
    private static final int PART_RECEIVER = 2;
    private static final int PART_TRANSACTION = 3;
    private static final int PART_COUNT = 4;

    private final Node[] allNodes;
    private final Transaction[] transactions;
    private final MessageRow row;
    private int begun;

    public AbsentMeansAbort() {
        allNodes = new Node[NODE_COUNT];
        for (int n = 0; n < NODE_COUNT; n++) {
            allNodes[n] = new Node();
        }
        transactions = new Transaction[TRANSACTION_LIMIT];
        for (int t = 0; t < TRANSACTION_LIMIT; t++) {
            transactions[t] = new Transaction();
        }
        row = new MessageRow();
        begun = 0;
    }

    public int begin(int coordinator) {
        if (!isNode(coordinator)) {
            return BAD;
        }
        if (!allNodes[coordinator].running) {
            return DOWN;
        }
        if (begun >= TRANSACTION_LIMIT) {
            return FULL;
        }
        int t = begun;
        begun++;
        transactions[t].coordinator = coordinator;
        transactions[t].phase = STAGE_OPEN;
        return t;
    }

    public int work(int t, int node, int r) {
        if (!isTransaction(t) || !isNode(node) || (r != NONE && !isResource(r))) {
            return BAD;
        }
        Node place = allNodes[node];
        Transaction transaction = transactions[t];
        if (!place.running || !allNodes[transaction.coordinator].running) {
            return DOWN;
        }
        boolean isMember = isIn(transaction.members, node);
        if (transaction.phase != STAGE_OPEN || (isMember && place.states[t] == STATE_NOTHING)) {
            return LATE;
        }
        if (!isMember) {
            transaction.members |= only(node);
            place.states[t] = STATE_WORKING;
        }
        return place.grant(t, r) ? 1 : 0;
    }

    public int commit(int t) {
        if (!isTransaction(t)) {
            return BAD;
        }
        Transaction transaction = transactions[t];
        if (!allNodes[transaction.coordinator].running) {
            return DOWN;
        }
        if (transaction.phase != STAGE_OPEN) {
            return LATE;
        }
        if (transaction.members == NO_NODES) {
            transaction.forget();
            return 0;
        }
        transaction.phase = STAGE_COLLECTING;
        row.sendToEach(MESSAGE_PREPARE, transaction.coordinator, transaction.members, t);
        return Integer.bitCount(transaction.members);
    }

    public int withdraw(int t) {
        if (!isTransaction(t)) {
            return BAD;
        }
        Transaction transaction = transactions[t];
        if (!allNodes[transaction.coordinator].running) {
            return DOWN;
        }
        if (transaction.phase != STAGE_OPEN && transaction.phase != STAGE_COLLECTING) {
            return LATE;
        }
        return giveUp(t, NO_NODES);
    }

    public int deliver(int k) {
        if (!row.has(k)) {
            return BAD;
        }
        int kind = row.parts[PART_KIND][k];
        int sender = row.parts[PART_SENDER][k];
        int receiver = row.parts[PART_RECEIVER][k];
        int t = row.parts[PART_TRANSACTION][k];
        row.takeOut(k);
        if (allNodes[receiver].running) {
            hear(kind, sender, receiver, t);
        }
        return kind;
    }

    public int lose(int k) {
        if (!row.has(k)) {
            return BAD;
        }
        int kind = row.parts[PART_KIND][k];
        row.takeOut(k);
        return kind;
    }

    public int expire(int node, int t, boolean member) {
        if (!isNode(node) || !isTransaction(t)) {
            return BAD;
        }
        if (!member && transactions[t].coordinator != node) {
            return BAD;
        }
        if (!allNodes[node].running) {
            return DOWN;
        }
        return member ? expireAsMember(node, t) : expireAsCoordinator(t);
    }

    public int crash(int node) {
        if (!isNode(node)) {
            return BAD;
        }
        Node place = allNodes[node];
        if (!place.running) {
            return DOWN;
        }
        place.running = false;
        for (int t = 0; t < begun; t++) {
            place.letGo(t);
            if (transactions[t].coordinator == node) {
                transactions[t].forget();
            }
        }
        return place.log.dropUnsafe();
    }

    public int recover(int node) {
        if (!isNode(node)) {
            return BAD;
        }
        Node place = allNodes[node];
        if (place.running) {
            return LATE;
        }
        place.running = true;
        int cameBack = 0;
        for (int t = 0; t < begun; t++) {
            if (place.restorePrepared(t)) {
                cameBack++;
            }
            if (restoreCommitting(node, t)) {
                cameBack++;
            }
        }
        return cameBack;
    }

    public boolean up(int node) {
        return isNode(node) && allNodes[node].running;
    }

    public int stage(int t) {
        return isTransaction(t) ? transactions[t].phase : BAD;
    }

    public int nodes(int t, int which) {
        if (!isTransaction(t)) {
            return BAD;
        }
        switch (which) {
            case 0:
                return transactions[t].members;
            case 1:
                return transactions[t].saidYes;
            case 2:
                return transactions[t].saidRead;
            case 3:
                return transactions[t].due;
            default:
                return BAD;
        }
    }

    public int state(int node, int t) {
        if (!isNode(node) || !isTransaction(t)) {
            return BAD;
        }
        return allNodes[node].states[t];
    }

    public int holder(int node, int r) {
        if (!isNode(node) || !isResource(r)) {
            return BAD;
        }
        return allNodes[node].findOwner(r);
    }

    public int records(int node, boolean safe) {
        if (!isNode(node)) {
            return BAD;
        }
        Log log = allNodes[node].log;
        return safe ? log.safeCount : log.count;
    }

    public int entry(int node, int k) {
        if (!isNode(node)) {
            return BAD;
        }
        Log log = allNodes[node].log;
        return log.has(k) ? log.labels[k] : NONE;
    }

    public int content(int node, int k) {
        if (!isNode(node)) {
            return BAD;
        }
        Log log = allNodes[node].log;
        return log.has(k) ? log.contents[k] : NONE;
    }

    public int messages() {
        return row.count;
    }

    public int message(int k, int what) {
        if (!row.has(k) || what < 0 || what >= PART_COUNT) {
            return BAD;
        }
        return row.parts[what][k];
    }

    public int forced(int node) {
        return isNode(node) ? allNodes[node].log.forcedCount : BAD;
    }

    private void hear(int kind, int sender, int receiver, int t) {
        switch (kind) {
            case MESSAGE_PREPARE:
                row.send(allNodes[receiver].voteOn(t), receiver, sender, t);
                break;
            case MESSAGE_YES:
            case MESSAGE_READ:
            case MESSAGE_NO:
                hearVote(kind, sender, t);
                break;
            case MESSAGE_COMMIT:
                allNodes[receiver].finishCommit(t);
                row.send(MESSAGE_ACK, receiver, sender, t);
                break;
            case MESSAGE_ABORT:
                allNodes[receiver].abort(t);
                break;
            case MESSAGE_ACK:
                hearAck(sender, t);
                break;
            case MESSAGE_INQUIRY:
                hearInquiry(sender, receiver, t);
                break;
            default:
                break;
        }
    }

    private void hearVote(int kind, int sender, int t) {
        Transaction transaction = transactions[t];
        if (transaction.phase != STAGE_COLLECTING || !isIn(transaction.members, sender)) {
            return;
        }
        if (kind == MESSAGE_NO) {
            giveUp(t, only(sender));
            return;
        }
        if (kind == MESSAGE_YES) {
            transaction.saidYes |= only(sender);
        } else {
            transaction.saidRead |= only(sender);
        }
        if (transaction.hasAllVotes()) {
            decide(t);
        }
    }

    private void decide(int t) {
        Transaction transaction = transactions[t];
        if (transaction.saidYes == NO_NODES) {
            transaction.forget();
            return;
        }
        transaction.due = transaction.saidYes;
        allNodes[transaction.coordinator].log.force(t, RECORD_DECIDED, transaction.due);
        transaction.phase = STAGE_COMMITTING;
        row.sendToEach(MESSAGE_COMMIT, transaction.coordinator, transaction.due, t);
    }

    private void hearAck(int sender, int t) {
        Transaction transaction = transactions[t];
        if (transaction.phase != STAGE_COMMITTING) {
            return;
        }
        transaction.due &= ~only(sender);
        if (transaction.due == NO_NODES) {
            allNodes[transaction.coordinator].log.write(t, RECORD_ENDED, 0);
            transaction.forget();
        }
    }

    private void hearInquiry(int sender, int receiver, int t) {
        int phase = transactions[t].phase;
        if (phase == STAGE_COMMITTING) {
            row.send(MESSAGE_COMMIT, receiver, sender, t);
        } else if (phase == STAGE_NOTHING) {
            row.send(MESSAGE_ABORT, receiver, sender, t);
        }
    }

    // An ABORT that finds the row of messages full was sent all the same, so it counts in the answer.
    private int giveUp(int t, int spared) {
        Transaction transaction = transactions[t];
        int told = transaction.members & ~transaction.saidRead & ~spared;
        allNodes[transaction.coordinator].log.write(t, RECORD_WITHDRAWN, 0);
        row.sendToEach(MESSAGE_ABORT, transaction.coordinator, told, t);
        transaction.forget();
        return Integer.bitCount(told);
    }

    private int expireAsMember(int node, int t) {
        Node place = allNodes[node];
        if (place.states[t] == STATE_NOTHING) {
            return LATE;
        }
        if (place.states[t] == STATE_PREPARED) {
            row.send(MESSAGE_INQUIRY, node, transactions[t].coordinator, t);
        } else {
            place.abort(t);
        }
        return 1;
    }

    private int expireAsCoordinator(int t) {
        Transaction transaction = transactions[t];
        if (transaction.phase == STAGE_COLLECTING) {
            giveUp(t, NO_NODES);
            return 1;
        }
        if (transaction.phase == STAGE_COMMITTING) {
            row.sendToEach(MESSAGE_COMMIT, transaction.coordinator, transaction.due, t);
            return 1;
        }
        return LATE;
    }

    private boolean restoreCommitting(int node, int t) {
        Log log = allNodes[node].log;
        int decided = log.find(t, RECORD_DECIDED);
        if (decided == NONE || log.find(t, RECORD_ENDED) != NONE) {
            return false;
        }
        int partners = log.contents[decided];
        Transaction transaction = transactions[t];
        transaction.phase = STAGE_COMMITTING;
        transaction.members = partners;
        transaction.saidYes = partners;
        transaction.due = partners;
        row.sendToEach(MESSAGE_COMMIT, node, partners, t);
        return true;
    }

    private boolean isTransaction(int t) {
        return t >= 0 && t < begun;
    }

    private static boolean isNode(int node) {
        return node >= 0 && node < NODE_COUNT;
    }

    private static boolean isResource(int r) {
        return r >= 0 && r < RESOURCE_COUNT;
    }

    // Sets of nodes and of resources are sums of 2^i, because the face answers them in that form.
    private static int only(int i) {
        return 1 << i;
    }

    private static boolean isIn(int set, int i) {
        return (set & only(i)) != 0;
    }

    // All but the coordinator's number is memory of the coordinator, and lost when it crashes.
    private static final class Transaction {
        int coordinator;
        int phase;
        int members;
        int saidYes;
        int saidRead;
        int due;

        boolean hasAllVotes() {
            return (members & ~(saidYes | saidRead)) == NO_NODES;
        }

        void forget() {
            phase = STAGE_NOTHING;
            members = NO_NODES;
            saidYes = NO_NODES;
            saidRead = NO_NODES;
            due = NO_NODES;
        }
    }

    // A node's part as a coordinator stands in Transaction, since each transaction has just one coordinator.
    private static final class Node {
        boolean running = true;
        final int[] states = new int[TRANSACTION_LIMIT];
        final int[] held = new int[TRANSACTION_LIMIT];
        final Log log = new Log();

        int findOwner(int r) {
            for (int t = 0; t < TRANSACTION_LIMIT; t++) {
                if (isIn(held[t], r)) {
                    return t;
                }
            }
            return NONE;
        }

        boolean grant(int t, int r) {
            if (states[t] == STATE_REFUSED) {
                return false;
            }
            if (r == NONE) {
                return true;
            }
            int owner = findOwner(r);
            if (owner != NONE && owner != t) {
                states[t] = STATE_REFUSED;
                return false;
            }
            held[t] |= only(r);
            return true;
        }

        void letGo(int t) {
            held[t] = 0;
            states[t] = STATE_NOTHING;
        }

        int voteOn(int t) {
            switch (states[t]) {
                case STATE_WORKING:
                    return voteWhenWorking(t);
                case STATE_PREPARED:
                    return MESSAGE_YES;
                default:
                    // NOTHING and REFUSED both: abort writes a record only where there is something to end.
                    abort(t);
                    return MESSAGE_NO;
            }
        }

        private int voteWhenWorking(int t) {
            if (held[t] == 0) {
                letGo(t);
                return MESSAGE_READ;
            }
            log.force(t, RECORD_PREPARED, held[t]);
            states[t] = STATE_PREPARED;
            return MESSAGE_YES;
        }

        void finishCommit(int t) {
            if (states[t] == STATE_PREPARED) {
                log.force(t, RECORD_COMMITTED, 0);
                letGo(t);
            }
        }

        void abort(int t) {
            if (states[t] != STATE_NOTHING) {
                log.write(t, RECORD_ABORTED, 0);
                letGo(t);
            }
        }

        boolean restorePrepared(int t) {
            int prepared = log.find(t, RECORD_PREPARED);
            if (prepared == NONE
                    || log.find(t, RECORD_COMMITTED) != NONE
                    || log.find(t, RECORD_ABORTED) != NONE) {
                return false;
            }
            states[t] = STATE_PREPARED;
            held[t] = log.contents[prepared];
            return true;
        }
    }

    // Forcing makes the whole row safe, so the safe records are always the first ones, and a count tells which.
    private static final class Log {
        final int[] labels = new int[RECORD_LIMIT];
        final int[] contents = new int[RECORD_LIMIT];
        int count;
        int safeCount;
        int forcedCount;

        boolean has(int k) {
            return k >= 0 && k < count;
        }

        void write(int t, int kind, int inside) {
            if (count >= RECORD_LIMIT) {
                return;
            }
            labels[count] = labelOf(t, kind);
            contents[count] = inside;
            count++;
        }

        void force(int t, int kind, int inside) {
            write(t, kind, inside);
            safeCount = count;
            forcedCount++;
        }

        int dropUnsafe() {
            int lost = count - safeCount;
            count = safeCount;
            return lost;
        }

        int find(int t, int kind) {
            int label = labelOf(t, kind);
            for (int k = 0; k < count; k++) {
                if (labels[k] == label) {
                    return k;
                }
            }
            return NONE;
        }

        private static int labelOf(int t, int kind) {
            return 10 * t + kind;
        }
    }

    // A row of numbers for each part of a message, made once, so that sending makes no object.
    private static final class MessageRow {
        final int[][] parts = new int[PART_COUNT][MESSAGE_LIMIT];
        int count;

        boolean has(int k) {
            return k >= 0 && k < count;
        }

        void send(int kind, int sender, int receiver, int t) {
            if (count >= MESSAGE_LIMIT) {
                return;
            }
            parts[PART_KIND][count] = kind;
            parts[PART_SENDER][count] = sender;
            parts[PART_RECEIVER][count] = receiver;
            parts[PART_TRANSACTION][count] = t;
            count++;
        }

        void sendToEach(int kind, int sender, int receivers, int t) {
            for (int n = 0; n < NODE_COUNT; n++) {
                if (isIn(receivers, n)) {
                    send(kind, sender, n, t);
                }
            }
        }

        void takeOut(int k) {
            count--;
            for (int part = 0; part < PART_COUNT; part++) {
                for (int i = k; i < count; i++) {
                    parts[part][i] = parts[part][i + 1];
                }
            }
        }
    }
}

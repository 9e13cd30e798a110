import java.util.ArrayList;
import java.util.List;

/**
 * For three sentences of the document's 'Terms', on every call of the face: 'A call that is refused changes nothing',
 * 'A number that names no node, transaction, resource or message is BAD', and 'Where several refusals that a call
 * names fit, the one named first is the answer'.
 */
public final class RefusalTest extends Bench {
    private static final int NO_REFUSAL = 0;

    private static final String DECIDED = "begin(0) work(0, 1, 5) work(0, 2, 5) commit(0)"
            + " deliver(0) deliver(0) deliver(0) deliver(0) ";
    private static final String IN_ALL_STAGES = DECIDED
            + "begin(1) work(1, 1, 5) work(1, 2, 6) work(1, 3, NONE) commit(1)"
            + " begin(2) work(2, 1, 0) work(2, 3, 0) expire(3, 2, true) begin(3) commit(3) ";
    private static final String TEN = "begin(0) begin(1) begin(2) begin(3) begin(0) begin(1) begin(2) begin(3)"
            + " begin(0) begin(1) ";
    private static final String FORTY = "begin(3) work(0, 3, 0) commit(0) deliver(0) lose(0) "
            + "expire(3, 0, true) ".repeat(40);

    private static final String[] SCENES = {
        "",
        "crash(0) crash(1) crash(2) crash(3) ",
        DECIDED,
        DECIDED + "deliver(0) deliver(0) deliver(0) deliver(0) ",
        IN_ALL_STAGES,
        IN_ALL_STAGES + "crash(0) ",
        IN_ALL_STAGES + "crash(1) ",
        IN_ALL_STAGES + "crash(2) crash(3) ",
        IN_ALL_STAGES + "crash(0) crash(1) crash(2) crash(3) ",
        IN_ALL_STAGES + "crash(0) crash(1) crash(2) crash(3) recover(0) recover(1) recover(2) recover(3) ",
        IN_ALL_STAGES + "withdraw(1) withdraw(2) ",
        TEN,
        TEN + "work(9, 0, 7) work(9, 3, 7) crash(0) ",
        FORTY,
        FORTY + "crash(3) ",
    };

    private static final int[] NODES = {-2, -1, 0, 1, 2, 3, 4, 32};
    private static final int[] TRANSACTIONS = {-1, 0, 1, 2, 3, 4, 9, 10, 32};
    private static final int[] RESOURCES = {-2, -1, 0, 5, 7, 8, 32};
    private static final int[] PLACES = {-1, 0, 1, 7, 39, 40, 41};

    private final List<Integer> coordinators = new ArrayList<>();

    public static void main(String[] args) {
        RefusalTest test = new RefusalTest();
        test.theOneNamedFirst();
        List<String> calls = allCalls();
        for (String scene : SCENES) {
            for (String call : calls) {
                test.compare(scene, call);
            }
        }
        test.check.finish();
    }

    private void theOneNamedFirst() {
        fresh("Where several refusals that a call names fit, the one named first is the answer.");
        run(TEN.trim().split("(?<=\\)) "));
        run("work(0, 1, 1)", "work(2, 1, 2)", "commit(2)", "crash(0)");
        refused("begin(4)", BAD);
        refused("begin(0)", DOWN);
        refused("begin(1)", FULL);
        refused("work(0, 4, 8)", BAD);
        refused("work(0, 0, 8)", BAD);
        refused("work(10, 0, 0)", BAD);
        refused("work(0, 0, 0)", DOWN);
        refused("work(2, 0, 0)", DOWN);
        refused("work(2, 1, 8)", BAD);
        refused("work(2, 1, 0)", LATE);
        refused("commit(0)", DOWN);
        refused("commit(2)", LATE);
        refused("withdraw(0)", DOWN);
        refused("expire(0, 2, false)", BAD);
        refused("expire(0, 10, true)", BAD);
        refused("expire(0, 2, true)", DOWN);
        refused("expire(0, 0, false)", DOWN);
        refused("expire(1, 2, false)", BAD);
        refused("expire(1, 1, false)", LATE);
        refused("entry(4, -1)", BAD);
        refused("content(-1, 0)", BAD);
    }

    private static List<String> allCalls() {
        List<String> calls = new ArrayList<>();
        for (int node : NODES) {
            addEach(calls, "begin(%d)", node);
            addEach(calls, "crash(%d)", node);
            addEach(calls, "recover(%d)", node);
            addEach(calls, "up(%d)", node);
            addEach(calls, "forced(%d)", node);
            addEach(calls, "records(%d, true)", node);
            addEach(calls, "records(%d, false)", node);
            addPairs(calls, "holder(%d, %d)", node, RESOURCES);
            addPairs(calls, "entry(%d, %d)", node, PLACES);
            addPairs(calls, "content(%d, %d)", node, PLACES);
            addPairs(calls, "state(%d, %d)", node, TRANSACTIONS);
            addPairs(calls, "expire(%d, %d, true)", node, TRANSACTIONS);
            addPairs(calls, "expire(%d, %d, false)", node, TRANSACTIONS);
        }
        for (int t : TRANSACTIONS) {
            addEach(calls, "commit(%d)", t);
            addEach(calls, "withdraw(%d)", t);
            addEach(calls, "stage(%d)", t);
            addPairs(calls, "nodes(%d, %d)", t, NODES);
            for (int node : NODES) {
                addPairs(calls, "work(" + t + ", %d, %d)", node, RESOURCES);
            }
        }
        for (int k : PLACES) {
            addEach(calls, "deliver(%d)", k);
            addEach(calls, "lose(%d)", k);
            addPairs(calls, "message(%d, %d)", k, NODES);
        }
        calls.add("messages()");
        return calls;
    }

    private static void addEach(List<String> calls, String form, int a) {
        calls.add(String.format(form, a));
    }

    private static void addPairs(List<String> calls, String form, int a, int[] seconds) {
        for (int b : seconds) {
            calls.add(String.format(form, a, b));
        }
    }

    private void compare(String scene, String call) {
        build(scene);
        int refusal = refusalOf(Calls.name(call), Calls.numbers(call));
        String before = Snapshot.of(x);
        int got = Calls.answer(x, call);
        if (refusal != NO_REFUSAL) {
            check.due(call, got, refusal);
            check.due("what is asked after " + call, Snapshot.of(x), before);
        } else {
            boolean isNone = got == NONE && List.of("entry", "content", "holder").contains(Calls.name(call));
            check.due("that " + call + " is answered", got >= 0 || isNone, true);
        }
    }

    private void build(String scene) {
        fresh("after " + scene);
        coordinators.clear();
        for (String call : scene.isEmpty() ? new String[0] : scene.trim().split("(?<=\\)) ")) {
            int answer = Calls.answer(x, call);
            if (Calls.name(call).equals("begin") && answer >= 0) {
                coordinators.add(Calls.numbers(call)[0]);
            }
        }
    }

    private boolean noNode(int node) {
        return node < 0 || node > 3;
    }

    private boolean noTransaction(int t) {
        return t < 0 || t >= coordinators.size();
    }

    private boolean noResource(int r) {
        return r < 0 || r > 7;
    }

    private boolean coordinatorIsDown(int t) {
        return !x.up(coordinators.get(t));
    }

    /** Each call's refusals, in the order in which its promise names them. */
    private int refusalOf(String name, int[] a) {
        return switch (name) {
            case "begin" -> ofBegin(a[0]);
            case "work" -> ofWork(a[0], a[1], a[2]);
            case "commit" -> ofEnding(a[0], false);
            case "withdraw" -> ofEnding(a[0], true);
            case "deliver", "lose" -> noMessage(a[0]) ? BAD : NO_REFUSAL;
            case "expire" -> ofExpire(a[0], a[1], a[2] == 1);
            case "crash" -> noNode(a[0]) ? BAD : !x.up(a[0]) ? DOWN : NO_REFUSAL;
            case "recover" -> noNode(a[0]) ? BAD : x.up(a[0]) ? LATE : NO_REFUSAL;
            case "up", "messages" -> NO_REFUSAL;
            case "stage" -> noTransaction(a[0]) ? BAD : NO_REFUSAL;
            case "nodes" -> noTransaction(a[0]) || a[1] < 0 || a[1] > 3 ? BAD : NO_REFUSAL;
            case "state" -> noNode(a[0]) || noTransaction(a[1]) ? BAD : NO_REFUSAL;
            case "holder" -> noNode(a[0]) || noResource(a[1]) ? BAD : NO_REFUSAL;
            case "message" -> noMessage(a[0]) || a[1] < 0 || a[1] > 3 ? BAD : NO_REFUSAL;
            default -> noNode(a[0]) ? BAD : NO_REFUSAL;
        };
    }

    private boolean noMessage(int k) {
        return k < 0 || k >= x.messages();
    }

    private int ofBegin(int coordinator) {
        if (noNode(coordinator)) {
            return BAD;
        }
        if (!x.up(coordinator)) {
            return DOWN;
        }
        return coordinators.size() == 10 ? FULL : NO_REFUSAL;
    }

    private int ofWork(int t, int node, int r) {
        if (noTransaction(t) || noNode(node) || noResource(r) && r != NONE) {
            return BAD;
        }
        if (!x.up(node) || coordinatorIsDown(t)) {
            return DOWN;
        }
        boolean isMember = (x.nodes(t, 0) >> node & 1) == 1;
        return x.stage(t) != OPEN || isMember && x.state(node, t) == NOTHING ? LATE : NO_REFUSAL;
    }

    private int ofEnding(int t, boolean alsoWhenCollecting) {
        if (noTransaction(t)) {
            return BAD;
        }
        if (coordinatorIsDown(t)) {
            return DOWN;
        }
        return x.stage(t) == OPEN || alsoWhenCollecting && x.stage(t) == COLLECTING ? NO_REFUSAL : LATE;
    }

    private int ofExpire(int node, int t, boolean member) {
        if (noNode(node) || noTransaction(t) || !member && coordinators.get(t) != node) {
            return BAD;
        }
        if (!x.up(node)) {
            return DOWN;
        }
        if (member) {
            return x.state(node, t) == NOTHING ? LATE : NO_REFUSAL;
        }
        return x.stage(t) == COLLECTING || x.stage(t) == COMMITTING ? NO_REFUSAL : LATE;
    }
}

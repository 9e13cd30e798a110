import java.util.ArrayList;
import java.util.HashMap;
import java.util.List;
import java.util.Map;
import java.util.Set;
import java.util.TreeMap;
import java.util.TreeSet;

/** The document once more, in maps and sets and with names as texts, for comparing; it spares nothing. */
final class PlainModel {
    private static final List<String> STATES = List.of("NOTHING", "WORKING", "REFUSED", "PREPARED");
    private static final List<String> STAGES = List.of("NOTHING", "OPEN", "COLLECTING", "COMMITTING");
    private static final List<String> RECORDS =
            List.of("", "PREPARED", "COMMITTED", "ABORTED", "DECIDED", "WITHDRAWN", "ENDED");
    private static final List<String> MESSAGES =
            List.of("", "PREPARE", "YES", "READ", "NO", "COMMIT", "ABORT", "ACK", "INQUIRY");

    private record Entry(int t, String kind, Set<Integer> content) {
    }

    private record Message(String kind, int sender, int receiver, int t) {
    }

    private static final class AsCoordinator {
        String stage = "OPEN";
        Set<Integer> members = new TreeSet<>();
        Set<Integer> yes = new TreeSet<>();
        Set<Integer> read = new TreeSet<>();
        Set<Integer> due = new TreeSet<>();
    }

    private static final class AsMember {
        String state = "WORKING";
        Set<Integer> holds = new TreeSet<>();
    }

    private static final class Machine {
        boolean up = true;
        // Without an entry here the state, or the stage, is NOTHING.
        Map<Integer, AsMember> member = new TreeMap<>();
        Map<Integer, AsCoordinator> coordinator = new HashMap<>();
        List<Entry> disk = new ArrayList<>();
        List<Entry> unsafe = new ArrayList<>();
        int forced = 0;

        List<Entry> log() {
            List<Entry> all = new ArrayList<>(disk);
            all.addAll(unsafe);
            return all;
        }
    }

    private final List<Machine> machines = List.of(new Machine(), new Machine(), new Machine(), new Machine());
    private final List<Integer> coordinators = new ArrayList<>();
    private final List<Message> post = new ArrayList<>();

    private boolean noNode(int node) {
        return node < 0 || node > 3;
    }

    private boolean noTransaction(int t) {
        return t < 0 || t >= coordinators.size();
    }

    private boolean noResource(int r) {
        return r < 0 || r > 7;
    }

    private boolean noMessage(int k) {
        return k < 0 || k >= post.size();
    }

    private Machine home(int t) {
        return machines.get(coordinators.get(t));
    }

    private String stageOf(int t) {
        AsCoordinator memory = home(t).coordinator.get(t);
        return memory == null ? "NOTHING" : memory.stage;
    }

    private String stateOf(int node, int t) {
        AsMember memory = machines.get(node).member.get(t);
        return memory == null ? "NOTHING" : memory.state;
    }

    private void write(int node, int t, String kind, Set<Integer> content) {
        machines.get(node).unsafe.add(new Entry(t, kind, Set.copyOf(content)));
    }

    private void force(int node, int t, String kind, Set<Integer> content) {
        write(node, t, kind, content);
        Machine machine = machines.get(node);
        machine.disk.addAll(machine.unsafe);
        machine.unsafe.clear();
        machine.forced++;
    }

    private void send(String kind, int sender, int receiver, int t) {
        if (post.size() != 40) {
            post.add(new Message(kind, sender, receiver, t));
        }
    }

    private int sum(Set<Integer> set) {
        int total = 0;
        for (int i : set) {
            total += (int) Math.pow(2, i);
        }
        return total;
    }

    int begin(int coordinator) {
        if (noNode(coordinator)) return AbsentMeansAbort.BAD;
        if (!machines.get(coordinator).up) return AbsentMeansAbort.DOWN;
        if (coordinators.size() == 10) return AbsentMeansAbort.FULL;
        coordinators.add(coordinator);
        machines.get(coordinator).coordinator.put(coordinators.size() - 1, new AsCoordinator());
        return coordinators.size() - 1;
    }

    int work(int t, int node, int r) {
        if (noTransaction(t) || noNode(node)) return AbsentMeansAbort.BAD;
        if (r != AbsentMeansAbort.NONE && noResource(r)) return AbsentMeansAbort.BAD;
        if (!machines.get(node).up || !home(t).up) return AbsentMeansAbort.DOWN;
        if (!stageOf(t).equals("OPEN")) return AbsentMeansAbort.LATE;
        Set<Integer> members = home(t).coordinator.get(t).members;
        if (members.contains(node) && stateOf(node, t).equals("NOTHING")) return AbsentMeansAbort.LATE;
        if (members.add(node)) {
            machines.get(node).member.put(t, new AsMember());
        }
        AsMember memory = machines.get(node).member.get(t);
        if (memory.state.equals("REFUSED")) return 0;
        if (r != AbsentMeansAbort.NONE) {
            int holder = holder(node, r);
            if (holder != AbsentMeansAbort.NONE && holder != t) {
                memory.state = "REFUSED";
                return 0;
            }
            memory.holds.add(r);
        }
        return 1;
    }

    int commit(int t) {
        if (noTransaction(t)) return AbsentMeansAbort.BAD;
        if (!home(t).up) return AbsentMeansAbort.DOWN;
        if (!stageOf(t).equals("OPEN")) return AbsentMeansAbort.LATE;
        AsCoordinator memory = home(t).coordinator.get(t);
        if (memory.members.isEmpty()) {
            home(t).coordinator.remove(t);
            return 0;
        }
        memory.stage = "COLLECTING";
        for (int member : memory.members) {
            send("PREPARE", coordinators.get(t), member, t);
        }
        return memory.members.size();
    }

    int withdraw(int t) {
        if (noTransaction(t)) return AbsentMeansAbort.BAD;
        if (!home(t).up) return AbsentMeansAbort.DOWN;
        if (!stageOf(t).equals("OPEN") && !stageOf(t).equals("COLLECTING")) return AbsentMeansAbort.LATE;
        return withdrawing(t, -1);
    }

    private int withdrawing(int t, int sayerOfNo) {
        AsCoordinator memory = home(t).coordinator.get(t);
        write(coordinators.get(t), t, "WITHDRAWN", Set.of());
        int sent = 0;
        for (int member : memory.members) {
            if (!memory.read.contains(member) && member != sayerOfNo) {
                send("ABORT", coordinators.get(t), member, t);
                sent++;
            }
        }
        home(t).coordinator.remove(t);
        return sent;
    }

    int deliver(int k) {
        if (noMessage(k)) return AbsentMeansAbort.BAD;
        Message message = post.remove(k);
        if (machines.get(message.receiver).up) {
            if (List.of("PREPARE", "COMMIT", "ABORT").contains(message.kind)) {
                memberHears(message);
            } else {
                coordinatorHears(message);
            }
        }
        return MESSAGES.indexOf(message.kind);
    }

    private void answer(Message message, String kind) {
        send(kind, message.receiver, message.sender, message.t);
    }

    private void memberHears(Message message) {
        int node = message.receiver;
        int t = message.t;
        String state = stateOf(node, t);
        Map<Integer, AsMember> memory = machines.get(node).member;
        if (message.kind.equals("PREPARE")) {
            memberHearsPrepare(message, state, memory);
        } else if (message.kind.equals("COMMIT")) {
            if (state.equals("PREPARED")) {
                force(node, t, "COMMITTED", Set.of());
                memory.remove(t);
            }
            answer(message, "ACK");
        } else if (!state.equals("NOTHING")) {
            write(node, t, "ABORTED", Set.of());
            memory.remove(t);
        }
    }

    private void memberHearsPrepare(Message message, String state, Map<Integer, AsMember> memory) {
        int node = message.receiver;
        int t = message.t;
        if (state.equals("NOTHING")) {
            answer(message, "NO");
        } else if (state.equals("REFUSED")) {
            write(node, t, "ABORTED", Set.of());
            memory.remove(t);
            answer(message, "NO");
        } else if (state.equals("WORKING") && memory.get(t).holds.isEmpty()) {
            memory.remove(t);
            answer(message, "READ");
        } else if (state.equals("WORKING")) {
            force(node, t, "PREPARED", memory.get(t).holds);
            memory.get(t).state = "PREPARED";
            answer(message, "YES");
        } else {
            answer(message, "YES");
        }
    }

    private void coordinatorHears(Message message) {
        int t = message.t;
        String stage = stageOf(t);
        AsCoordinator memory = home(t).coordinator.get(t);
        if (message.kind.equals("INQUIRY")) {
            if (stage.equals("COMMITTING")) answer(message, "COMMIT");
            if (stage.equals("NOTHING")) answer(message, "ABORT");
        } else if (message.kind.equals("ACK")) {
            if (stage.equals("COMMITTING")) {
                memory.due.remove(message.sender);
                if (memory.due.isEmpty()) {
                    write(coordinators.get(t), t, "ENDED", Set.of());
                    home(t).coordinator.remove(t);
                }
            }
        } else if (stage.equals("COLLECTING") && memory.members.contains(message.sender)) {
            coordinatorHearsVote(message, memory);
        }
    }

    private void coordinatorHearsVote(Message message, AsCoordinator memory) {
        int t = message.t;
        if (message.kind.equals("NO")) {
            withdrawing(t, message.sender);
            return;
        }
        (message.kind.equals("YES") ? memory.yes : memory.read).add(message.sender);
        Set<Integer> voted = new TreeSet<>(memory.yes);
        voted.addAll(memory.read);
        if (!voted.containsAll(memory.members)) return;
        if (memory.yes.isEmpty()) {
            home(t).coordinator.remove(t);
            return;
        }
        memory.due = new TreeSet<>(memory.yes);
        force(coordinators.get(t), t, "DECIDED", memory.due);
        memory.stage = "COMMITTING";
        for (int node : memory.due) {
            send("COMMIT", coordinators.get(t), node, t);
        }
    }

    int lose(int k) {
        return noMessage(k) ? AbsentMeansAbort.BAD : MESSAGES.indexOf(post.remove(k).kind);
    }

    int expire(int node, int t, boolean member) {
        if (noNode(node) || noTransaction(t)) return AbsentMeansAbort.BAD;
        if (!member && coordinators.get(t) != node) return AbsentMeansAbort.BAD;
        if (!machines.get(node).up) return AbsentMeansAbort.DOWN;
        if (member) {
            switch (stateOf(node, t)) {
                case "WORKING", "REFUSED" -> {
                    write(node, t, "ABORTED", Set.of());
                    machines.get(node).member.remove(t);
                }
                case "PREPARED" -> send("INQUIRY", node, coordinators.get(t), t);
                default -> {
                    return AbsentMeansAbort.LATE;
                }
            }
            return 1;
        }
        if (stageOf(t).equals("COLLECTING")) {
            withdrawing(t, -1);
            return 1;
        }
        if (stageOf(t).equals("COMMITTING")) {
            for (int partner : home(t).coordinator.get(t).due) {
                send("COMMIT", node, partner, t);
            }
            return 1;
        }
        return AbsentMeansAbort.LATE;
    }

    int crash(int node) {
        if (noNode(node)) return AbsentMeansAbort.BAD;
        Machine machine = machines.get(node);
        if (!machine.up) return AbsentMeansAbort.DOWN;
        machine.up = false;
        machine.member.clear();
        machine.coordinator.clear();
        int lost = machine.unsafe.size();
        machine.unsafe.clear();
        return lost;
    }

    int recover(int node) {
        if (noNode(node)) return AbsentMeansAbort.BAD;
        Machine machine = machines.get(node);
        if (machine.up) return AbsentMeansAbort.LATE;
        machine.up = true;
        int back = 0;
        for (int t = 0; t < coordinators.size(); t++) {
            Map<String, Entry> found = new HashMap<>();
            for (Entry entry : machine.disk) {
                if (entry.t == t) found.put(entry.kind, entry);
            }
            if (found.containsKey("PREPARED") && !found.containsKey("COMMITTED") && !found.containsKey("ABORTED")) {
                AsMember memory = new AsMember();
                memory.state = "PREPARED";
                memory.holds.addAll(found.get("PREPARED").content);
                machine.member.put(t, memory);
                back++;
            }
            if (found.containsKey("DECIDED") && !found.containsKey("ENDED")) {
                AsCoordinator memory = new AsCoordinator();
                memory.stage = "COMMITTING";
                memory.members.addAll(found.get("DECIDED").content);
                memory.yes.addAll(memory.members);
                memory.due.addAll(memory.members);
                machine.coordinator.put(t, memory);
                for (int partner : memory.due) {
                    send("COMMIT", node, partner, t);
                }
                back++;
            }
        }
        return back;
    }

    private int holder(int node, int r) {
        for (Map.Entry<Integer, AsMember> memory : machines.get(node).member.entrySet()) {
            if (memory.getValue().holds.contains(r)) return memory.getKey();
        }
        return AbsentMeansAbort.NONE;
    }

    /** The same text that Snapshot makes of the object under test. */
    String snapshot() {
        StringBuilder text = new StringBuilder();
        for (int node = 0; node < 4; node++) {
            addNode(text, node);
        }
        for (int t = 0; t < coordinators.size(); t++) {
            AsCoordinator memory = home(t).coordinator.getOrDefault(t, new AsCoordinator());
            text.append(" t").append(t).append(':').append(STAGES.indexOf(stageOf(t)));
            for (Set<Integer> set : List.of(memory.members, memory.yes, memory.read, memory.due)) {
                text.append(',').append(sum(set));
            }
        }
        text.append(" row:");
        for (Message message : post) {
            text.append(MESSAGES.indexOf(message.kind)).append(message.sender).append(message.receiver);
            text.append(message.t).append(' ');
        }
        return text.toString();
    }

    private void addNode(StringBuilder text, int node) {
        Machine machine = machines.get(node);
        text.append(" n").append(node).append(machine.up ? "up" : "down");
        for (int t = 0; t < coordinators.size(); t++) {
            text.append(STATES.indexOf(stateOf(node, t)));
        }
        text.append(" held:");
        for (int r = 0; r < 8; r++) {
            text.append(holder(node, r)).append(',');
        }
        text.append(" log:").append(machine.disk.size()).append('/').append(machine.log().size());
        text.append('/').append(machine.forced).append('=');
        for (Entry entry : machine.log()) {
            text.append(10 * entry.t + RECORDS.indexOf(entry.kind)).append('(').append(sum(entry.content)).append(')');
        }
    }
}

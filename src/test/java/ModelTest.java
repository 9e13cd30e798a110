import java.util.Random;

/** Runs of calls, the same ones each time, whose every answer and state is compared with PlainModel. */
public final class ModelTest {
    private static final int RUNS = 1200;
    private static final int CALLS = 512;
    private static final int[] STRANGE =
            {-6, -5, -4, -3, -2, -1, 4, 8, 9, 10, 31, 32, 40, 60, Integer.MAX_VALUE, Integer.MIN_VALUE};

    private final Checks check = new Checks();
    private Random random;
    private AbsentMeansAbort x;
    private PlainModel model;
    private String call;

    public static void main(String[] args) {
        ModelTest test = new ModelTest();
        for (int run = 0; run < RUNS; run++) {
            test.compareRun(run);
        }
        for (int run = 0; run < 100; run++) {
            test.callFarBeyondTheEnd(-1 - run);
        }
        test.check.finish();
    }

    private void compareRun(int run) {
        random = new Random(run);
        x = new AbsentMeansAbort();
        model = new PlainModel();
        // Runs differ in how often nodes crash and messages arrive, so that some rows fill and some plans end.
        int troubles = 1 + random.nextInt(12);
        int arrivals = 20 + random.nextInt(60);
        for (int i = 0; i < CALLS; i++) {
            check.about("run " + run + ", call " + i);
            int choice = random.nextInt(100);
            if (choice < troubles) {
                crashOrRecover();
            } else if (choice < troubles + arrivals) {
                deliverOrLose();
            } else {
                other();
            }
            check.due(call, Snapshot.of(x), model.snapshot());
        }
    }

    private int mostly(int bound) {
        if (random.nextInt(40) == 0) {
            return STRANGE[random.nextInt(STRANGE.length)];
        }
        return bound <= 0 ? 0 : random.nextInt(bound);
    }

    private void crashOrRecover() {
        int node = mostly(4);
        if (random.nextInt(2) == 0) {
            call = "crash(" + node + ")";
            check.due(call, x.crash(node), model.crash(node));
        } else {
            call = "recover(" + node + ")";
            check.due(call, x.recover(node), model.recover(node));
        }
    }

    private void deliverOrLose() {
        int k = mostly(x.messages());
        if (random.nextInt(10) == 0) {
            call = "lose(" + k + ")";
            check.due(call, x.lose(k), model.lose(k));
        } else {
            call = "deliver(" + k + ")";
            check.due(call, x.deliver(k), model.deliver(k));
        }
    }

    private void other() {
        int t = mostly(10);
        int node = mostly(4);
        int choice = random.nextInt(30);
        if (choice == 0) {
            call = "begin(" + node + ")";
            check.due(call, x.begin(node), model.begin(node));
        } else if (choice == 1) {
            call = "withdraw(" + t + ")";
            check.due(call, x.withdraw(t), model.withdraw(t));
        } else if (choice < 5) {
            call = "commit(" + t + ")";
            check.due(call, x.commit(t), model.commit(t));
        } else if (choice < 18) {
            int r = mostly(9) - 1;
            call = "work(" + t + ", " + node + ", " + r + ")";
            check.due(call, x.work(t, node, r), model.work(t, node, r));
        } else {
            boolean member = random.nextInt(3) > 0;
            call = "expire(" + node + ", " + t + ", " + member + ")";
            check.due(call, x.expire(node, t, member), model.expire(node, t, member));
        }
    }

    /** The document leaves these answers free; but no call may throw, however many there are. */
    private void callFarBeyondTheEnd(int seed) {
        random = new Random(seed);
        x = new AbsentMeansAbort();
        for (int i = 0; i < 4 * CALLS; i++) {
            int a = mostly(10);
            int b = mostly(4);
            boolean flag = random.nextBoolean();
            switch (random.nextInt(12)) {
                case 0 -> x.begin(b);
                case 1 -> x.work(a, b, mostly(8));
                case 2 -> x.commit(a);
                case 3 -> x.withdraw(a);
                case 4, 5, 6 -> x.deliver(mostly(x.messages()));
                case 7 -> x.lose(mostly(x.messages()));
                case 8, 9 -> x.expire(b, a, flag);
                case 10 -> x.crash(b);
                default -> x.recover(b);
            }
            askAnything(a, b, flag);
        }
    }

    private void askAnything(int a, int b, boolean flag) {
        x.up(b);
        x.stage(a);
        x.nodes(a, b);
        x.state(b, a);
        x.holder(b, a);
        x.records(b, flag);
        x.entry(b, a);
        x.content(b, a);
        x.message(a, b);
        x.forced(b);
    }
}

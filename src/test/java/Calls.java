/** Makes the call that a text tells, so that a test writes each call just once. */
final class Calls {
    private Calls() {
    }

    /** A boolean answer counts 1 or 0. */
    static int answer(AbsentMeansAbort x, String call) {
        int[] a = numbers(call);
        return switch (name(call)) {
            case "begin" -> x.begin(a[0]);
            case "work" -> x.work(a[0], a[1], a[2]);
            case "commit" -> x.commit(a[0]);
            case "withdraw" -> x.withdraw(a[0]);
            case "deliver" -> x.deliver(a[0]);
            case "lose" -> x.lose(a[0]);
            case "expire" -> x.expire(a[0], a[1], a[2] == 1);
            case "crash" -> x.crash(a[0]);
            case "recover" -> x.recover(a[0]);
            default -> asked(x, name(call), a);
        };
    }

    private static int asked(AbsentMeansAbort x, String name, int[] a) {
        return switch (name) {
            case "up" -> x.up(a[0]) ? 1 : 0;
            case "stage" -> x.stage(a[0]);
            case "nodes" -> x.nodes(a[0], a[1]);
            case "state" -> x.state(a[0], a[1]);
            case "holder" -> x.holder(a[0], a[1]);
            case "records" -> x.records(a[0], a[1] == 1);
            case "entry" -> x.entry(a[0], a[1]);
            case "content" -> x.content(a[0], a[1]);
            case "messages" -> x.messages();
            case "message" -> x.message(a[0], a[1]);
            case "forced" -> x.forced(a[0]);
            default -> throw new IllegalArgumentException("no call of the face: " + name);
        };
    }

    static String name(String call) {
        return call.substring(0, call.indexOf('('));
    }

    static int[] numbers(String call) {
        String inside = call.substring(call.indexOf('(') + 1, call.indexOf(')'));
        if (inside.isEmpty()) {
            return new int[0];
        }
        String[] words = inside.split(", ");
        int[] numbers = new int[words.length];
        for (int i = 0; i < words.length; i++) {
            numbers[i] = number(words[i]);
        }
        return numbers;
    }

    private static int number(String word) {
        return switch (word) {
            case "true" -> 1;
            case "false" -> 0;
            case "NONE" -> AbsentMeansAbort.NONE;
            default -> Integer.parseInt(word);
        };
    }
}

/** All that the asking calls of the face tell of an object, as one text. */
final class Snapshot {
    private Snapshot() {
    }

    static String of(AbsentMeansAbort x) {
        StringBuilder text = new StringBuilder();
        for (int node = 0; node < 4; node++) {
            addNode(text, x, node);
        }
        for (int t = 0; t < 10 && x.stage(t) != AbsentMeansAbort.BAD; t++) {
            text.append(" t").append(t).append(':').append(x.stage(t));
            for (int which = 0; which < 4; which++) {
                text.append(',').append(x.nodes(t, which));
            }
        }
        text.append(" row:");
        for (int k = 0; k < x.messages(); k++) {
            for (int what = 0; what < 4; what++) {
                text.append(x.message(k, what));
            }
            text.append(' ');
        }
        return text.toString();
    }

    private static void addNode(StringBuilder text, AbsentMeansAbort x, int node) {
        text.append(" n").append(node).append(x.up(node) ? "up" : "down");
        for (int t = 0; t < 10 && x.state(node, t) != AbsentMeansAbort.BAD; t++) {
            text.append(x.state(node, t));
        }
        text.append(" held:");
        for (int r = 0; r < 8; r++) {
            text.append(x.holder(node, r)).append(',');
        }
        text.append(" log:").append(x.records(node, true)).append('/').append(x.records(node, false));
        text.append('/').append(x.forced(node)).append('=');
        for (int k = 0; k < x.records(node, false); k++) {
            text.append(x.entry(node, k)).append('(').append(x.content(node, k)).append(')');
        }
    }
}

/** Counts and prints the answers that are not the ones that are due. */
final class Checks {
    private String topic = "";
    private int wrong = 0;
    private int made = 0;

    void about(String newTopic) {
        topic = newTopic;
    }

    void due(String call, int got, int want) {
        made++;
        if (got != want) {
            wrong++;
            System.out.println(topic + ": " + call + " answered " + got + ", due is " + want);
        }
    }

    void due(String call, boolean got, boolean want) {
        due(call, got ? 1 : 0, want ? 1 : 0);
    }

    void due(String call, String got, String want) {
        made++;
        if (!got.equals(want)) {
            wrong++;
            System.out.println(topic + ": " + call + " gave\n  " + got + "\ndue is\n  " + want);
        }
    }

    void finish() {
        System.out.println(wrong == 0 ? made + " answers are as due" : wrong + " answers are not as due");
        if (wrong != 0) {
            System.exit(1);
        }
    }
}

/** Runs tests that are each named by one sentence of the document, and tells what is not as due. */
final class Sentences {
    interface Test {
        void run(Sentences s);
    }

    private int tests = 0;
    private int wrong = 0;
    private int asked = 0;
    private String sentence = "";

    void test(String sentence, Test test) {
        this.sentence = sentence;
        tests++;
        asked = 0;
        try {
            test.run(this);
        } catch (RuntimeException e) {
            tell("threw " + e);
        }
        if (asked == 0) {
            tell("asks nothing");
        }
    }

    void due(String call, long got, long want) {
        asked++;
        if (got != want) {
            tell(call + " answered " + got + ", due is " + want);
        }
    }

    void due(String call, boolean got, boolean want) {
        due(call, got ? 1 : 0, want ? 1 : 0);
    }

    void due(String call, String got, String want) {
        asked++;
        if (!got.equals(want)) {
            tell(call + " answered " + got + ", due is " + want);
        }
    }

    void end() {
        System.out.println(tests + " sentences tested, " + wrong + " answers are not as due");
        if (wrong != 0) {
            System.exit(1);
        }
    }

    private void tell(String what) {
        wrong++;
        System.out.println("[" + sentence + "] " + what);
    }
}

/** Counts the answers that are not the ones that are due, and prints each below the sentence that it breaks. */
final class Due {
    private int asked = 0;
    private int wrong = 0;
    private String sentence = "";
    private boolean told = true;

    void begin(String newSentence) {
        sentence = newSentence;
        told = false;
    }

    void same(String call, long got, long want) {
        asked++;
        if (got != want) {
            fault(call + " answered " + words(got) + ", due is " + words(want));
        }
    }

    void yes(String what, boolean got) {
        same(what, got ? 1 : 0, 1);
    }

    void no(String what, boolean got) {
        same(what, got ? 1 : 0, 0);
    }

    void text(String what, String got, String want) {
        asked++;
        if (!got.equals(want)) {
            fault(what + " is " + got + ", due is " + want);
        }
    }

    void fault(String what) {
        if (!told) {
            System.out.println(sentence);
            told = true;
        }
        wrong++;
        System.out.println("  " + what);
    }

    int asked() {
        return asked;
    }

    private static String words(long value) {
        return value == Answer.THROWN ? "by throwing" : Long.toString(value);
    }

    void end() {
        System.out.println(wrong == 0 ? "all " + asked + " answers are as due" : wrong + " answers are not as due");
        if (wrong != 0) {
            System.exit(1);
        }
    }
}

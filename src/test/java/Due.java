/** Counts and prints the answers that are not as due. */
final class Due {
    private static final int MOST_PRINTED = 40;

    private final String test;
    private String sentence = "";
    private int asked = 0;
    private int wrong = 0;

    Due(String test) {
        this.test = test;
    }

    /** What the answers that follow are about; printed with those that are not as due. */
    void about(String sentence) {
        this.sentence = sentence.isEmpty() ? "" : "\"" + sentence + "\": ";
    }

    void is(String call, long got, long want) {
        asked++;
        if (got != want) {
            wrong++;
            if (wrong <= MOST_PRINTED) {
                System.out.println(sentence + call + " answered " + got + ", due is " + want);
            }
        }
    }

    void isTrue(String what, boolean holds) {
        is(what, holds ? 1 : 0, 1);
    }

    void end() {
        System.out.println(test + ": " + asked + " answers, " + wrong + " not as due");
        if (wrong != 0) {
            System.exit(1);
        }
    }
}

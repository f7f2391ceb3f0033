/**
 * Counts the answers that are not the ones due, and ends a test accordingly. The answers belong to
 * the sentence of the document that was named last, and a sentence without one is a fault, too.
 */
final class Due {
    private static final long LONGEST_MILLIS = 300_000;

    private final String test;
    private String sentence = "";
    private int sentences = 0;
    private int asked = 0;
    private int askedOfSentence = 0;
    private int wrong = 0;

    Due(String test) {
        this.test = test;
        Thread watch = new Thread(this::endAtLast);
        watch.setDaemon(true);
        watch.start();
    }

    /** What follows tests these words of the document. */
    void sentence(String words) {
        endSentence();
        sentence = words;
        sentences++;
        askedOfSentence = 0;
    }

    void is(String call, long got, long want) {
        asked++;
        askedOfSentence++;
        if (got != want) {
            wrong++;
            String of = sentence.isEmpty() ? "" : " [" + sentence + "]";
            System.out.println(test + of + ": " + call + " answered " + got + ", due is " + want);
        }
    }

    void is(String call, boolean got, boolean want) {
        is(call, got ? 1 : 0, want ? 1 : 0);
    }

    boolean allRight() {
        return wrong == 0;
    }

    void end() {
        endSentence();
        String of = sentences == 0 ? "" : sentences + " sentences, ";
        System.out.println(test + ": " + of + asked + " answers, " + wrong + " wrong");
        if (wrong != 0 || asked == 0) {
            System.exit(1);
        }
    }

    /** A call that does not end is a wrong answer, too. */
    private void endAtLast() {
        try {
            Thread.sleep(LONGEST_MILLIS);
        } catch (InterruptedException e) {
            return;
        }
        System.out.println(test + " [" + sentence + "]: does not end");
        Runtime.getRuntime().halt(1);
    }

    private void endSentence() {
        if (!sentence.isEmpty() && askedOfSentence == 0) {
            wrong++;
            System.out.println(test + " [" + sentence + "]: has no test");
        }
    }
}

/** Counts answers that are not as due; a test ends by close(). */
final class Check {
    private final String name;
    private int asked;
    private int wrong;
    private String sentence;
    private int askedBySentence;

    Check(String name) {
        this.name = name;
    }

    /** The words of the document that the checks behind this belong to; QuotesTest looks them up there. */
    void says(String words) {
        closeSentence();
        sentence = words;
        askedBySentence = 0;
    }

    void due(String what, long got, long want) {
        asked++;
        askedBySentence++;
        if (got != want) {
            wrong++;
            if (wrong <= 50) {
                String by = sentence == null ? "" : " [" + sentence + "]";
                System.out.println(name + ": " + what + " answered " + got + ", due is " + want + by);
            }
        }
    }

    void due(String what, boolean got, boolean want) {
        due(what, got ? 1 : 0, want ? 1 : 0);
    }

    void close() {
        closeSentence();
        System.out.println(name + ": " + asked + " asked, " + wrong + " wrong");
        if (wrong != 0 || asked == 0) {
            System.exit(1);
        }
    }

    private void closeSentence() {
        if (sentence != null && askedBySentence == 0) {
            wrong++;
            System.out.println(name + ": nothing is asked by [" + sentence + "]");
        }
    }
}

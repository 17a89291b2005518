/** Counts the answers that are not as due, and ends the test accordingly. */
final class Check {
    private int asked;
    private int wrong;
    private String sentence = "";
    private int sentences;
    private int askedBefore;

    /** What is asked from here on stands for these words of the document, under this heading. */
    void sentence(String heading, String words) {
        endSentence();
        sentence = heading + " \"" + words + "\": ";
        sentences++;
    }

    /** A sentence for which nothing was asked has no test. */
    private void endSentence() {
        if (sentences > 0 && asked == askedBefore) {
            wrong++;
            System.out.println(sentence + "nothing was asked");
        }
        askedBefore = asked;
    }

    void same(String what, int got, int want) {
        asked++;
        if (got != want) {
            wrong++;
            System.out.println(sentence + what + " answered " + got + ", due is " + want);
        }
    }

    void yes(String what, boolean got) {
        same(what, got ? 1 : 0, 1);
    }

    void no(String what, boolean got) {
        same(what, got ? 1 : 0, 0);
    }

    /** Variable v may be a number before statement s, with these bounds. */
    void numbers(String what, TypeForecast x, int s, int v, int low, int high) {
        same(what + ": number among the types", x.seen(s, v) & 1, 1);
        same(what + ": low bound", x.bound(s, v, 0), low);
        same(what + ": high bound", x.bound(s, v, 1), high);
    }

    /** Variable v may be a text before statement s, with these bounds of its length. */
    void lengths(String what, TypeForecast x, int s, int v, int low, int high) {
        same(what + ": text among the types", x.seen(s, v) & 2, 2);
        same(what + ": low bound of lengths", x.bound(s, v, 2), low);
        same(what + ": high bound of lengths", x.bound(s, v, 3), high);
    }

    boolean failed() {
        return wrong > 0;
    }

    void finish() {
        endSentence();
        String parts = sentences > 0 ? " for " + sentences + " sentences" : "";
        System.out.println(asked + " answers" + parts + ", " + wrong + " not as due");
        if (wrong > 0 || asked == 0) {
            System.exit(1);
        }
    }
}

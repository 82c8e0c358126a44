/** Holds answers against those that are due, and ends the program with 1 if one was wrong. */
final class Due {
    private String sentence = "";
    private int sentences;
    private int askedOfSentence;
    private int asked;
    private int wrong;

    /** What comes next tries this sentence of the document; the one before must have been tried. */
    void sentence(String words) {
        endSentence();
        sentence = words;
        sentences++;
        askedOfSentence = 0;
    }

    private void endSentence() {
        if (sentences > 0 && askedOfSentence == 0) {
            wrong++;
            System.out.println("[" + sentence + "] has no answer that is held against it");
        }
    }

    void is(String call, long want, long got) {
        asked++;
        askedOfSentence++;
        if (got != want) {
            wrong++;
            String of = sentence.isEmpty() ? "" : "[" + sentence + "] ";
            System.out.println(of + call + " answered " + got + ", due is " + want);
        }
    }

    void end(String test) {
        endSentence();
        String of = sentences == 0 ? "" : sentences + " sentences, ";
        System.out.println(test + ": " + of + asked + " answers, " + wrong + " wrong");
        if (wrong != 0) {
            System.exit(1);
        }
    }
}

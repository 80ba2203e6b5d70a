/** What the tests share: answers held against what is due, for which sentence, and the end with its exit code. */
final class Due {
    private int wrong = 0;
    private int asked = 0;
    private String where;
    private final String test;

    Due(String test) {
        this.test = test;
        this.where = test;
    }

    /** From here on the answers are held against this sentence; SentencesTest looks whether the document has it. */
    void of(int promise, String sentence) {
        where = test + ", promise " + promise + ", '" + sentence + "'";
    }

    void is(String call, long got, long due) {
        asked++;
        if (got != due) {
            wrong++;
            System.out.println(where + ": " + call + " answered " + got + ", due is " + due);
        }
    }

    int asked() {
        return asked;
    }

    void end() {
        System.out.println(test + ": " + asked + " answers, " + wrong + " wrong");
        if (wrong != 0 || asked == 0) {
            System.exit(1);
        }
    }

    static void typed(SilentRent x, String text) {
        for (int i = 0; i < text.length(); i++) {
            x.type(text.charAt(i));
        }
    }

    /** A new object whose house the text tells. */
    static SilentRent told(String text) {
        SilentRent x = new SilentRent();
        typed(x, text);
        x.house();
        return x;
    }
}

/** What the tests share: answers held against what is due, texts typed, and the end with its exit code. */
final class Due {
    private int wrong = 0;
    private int asked = 0;
    private final String test;

    Due(String test) {
        this.test = test;
    }

    void is(String call, long got, long due) {
        asked++;
        if (got != due) {
            wrong++;
            System.out.println(test + ": " + call + " answered " + got + ", due is " + due);
        }
    }

    void end() {
        System.out.println(test + ": " + asked + " answers, " + wrong + " wrong");
        if (wrong != 0 || asked == 0) {
            System.exit(1);
        }
    }

    static void typed(SilentRent x, String text) {
        for (int i = 0; i < text.length(); i++) {
            x.type(text.charAt(i));
        }
    }

    /** A new object whose house the text tells. */
    static SilentRent told(String text) {
        SilentRent x = new SilentRent();
        typed(x, text);
        x.house();
        return x;
    }
}

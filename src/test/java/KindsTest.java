/** Promises 28 to 32: marks, images, counts, the trace. */
public final class KindsTest {
    private static final Due due = new Due("KindsTest");
    private static final int BAD = SilentRent.BAD, STATE = SilentRent.STATE, NO = SilentRent.NO, NONE = SilentRent.NONE;

    public static void main(String[] args) {
        marks();
        images();
        imagesOfAllThatMayBeUndone();
        imagesKeepNothingElse();
        counts();
        due.end();
    }

    private static void mark(SilentRent x, int kind, int t, int want, long comes) {
        long before = x.trace();
        due.is("mark(" + kind + ", " + t + ")", x.mark(kind, t), want);
        due.is("what comes to the trace by mark(" + kind + ", " + t + ")", x.trace() - before, comes);
    }

    private static void marks() {
        SilentRent x = Due.told("r24;t12 5 7 3;t0 0 9 1;");
        due.is("trace()", x.trace(), 0);
        x.moves(0, 0);
        x.evening();
        x.evening();
        mark(x, 0, 0, 24, 1);
        mark(x, 1, 0, 29, 11);
        mark(x, 2, 0, 17, 101);
        mark(x, 3, 0, 58, 1011);
        mark(x, 4, 0, 20, 10101);
        mark(x, 5, 0, 26, 100001);
        due.is("trace()", x.trace(), 111226);
        mark(x, 2, 1, -9, 101);
        mark(x, 4, 1, -8, 10101);
        mark(x, 6, 0, NO, 0);
        mark(x, -1, 0, NO, 0);
        mark(x, 0, 2, NO, 0);
        mark(x, 0, -1, NO, 0);
        x.undo();
        mark(x, 5, 0, 13, 100001);
    }

    private static void images() {
        SilentRent x = Due.told("r24;r2;t12 5 7 3;t0 0 9 1;");
        due.is("none was kept", x.back(0), STATE);
        due.is("none was kept", x.back(1), STATE);
        x.moves(0, 0);
        x.talks(0, 3, 1);
        due.is("keep(0)", x.keep(0), 0);
        x.evening();
        x.moves(0, 1);
        x.moves(1, 0);
        x.lends(1, 0, 5);
        x.talks(1, 3, 1);
        due.is("keep(1)", x.keep(1), 1);
        due.is("back(0)", x.back(0), 0);
        due.is("home 0", x.tenant(0, 4), 0);
        due.is("home 1", x.tenant(1, 4), NONE);
        due.is("talked", x.tenant(0, 5), 3);
        due.is("pays", x.tenant(1, 6), 3);
        due.is("debts", x.now(1), 0);
        due.is("day", x.now(0), 0);
        due.is("what may be undone", x.count(4), 2);
        due.is("undo()", x.undo(), 1);
        due.is("undo()", x.undo(), 0);
        due.is("nowhere", x.tenant(0, 4), NONE);
        due.is("undo()", x.undo(), STATE);
        due.is("back(1)", x.back(1), 1);
        due.is("home 0", x.tenant(0, 4), 1);
        due.is("debt 1", x.tenant(1, 7), 5);
        due.is("debt 0", x.tenant(0, 7), 7);
        due.is("what may be undone", x.count(4), 7);
        due.is("the talk", x.undo(), 6);
        due.is("the loan", x.undo(), 5);
        due.is("debt 0", x.tenant(0, 7), 12);
        due.is("an image stays", x.back(1), 1);
        due.is("debt 0", x.tenant(0, 7), 7);
        due.is("kept over", x.keep(0), 1);
        due.is("back to that", x.back(0), 1);
        due.is("debt 1", x.tenant(1, 7), 5);
        due.is("keep(2)", x.keep(2), BAD);
        due.is("keep(-1)", x.keep(-1), BAD);
        due.is("back(2)", x.back(2), BAD);
        due.is("back(-1)", x.back(-1), BAD);
    }

    private static void imagesOfAllThatMayBeUndone() {
        SilentRent x = Due.told("t0 0 0 1;");
        for (int h = 1; h <= 12; h++) {
            x.talks(0, 1, 0);
        }
        x.keep(1);
        for (int h = 13; h <= 24; h++) {
            x.talks(0, 1, 0);
        }
        x.back(1);
        for (int left = 9; left >= 0; left--) {
            due.is("undo()", x.undo(), left);
            due.is("talked", x.tenant(0, 5), 2 + left);
        }
        due.is("older ones are lost", x.undo(), STATE);
    }

    private static void imagesKeepNothingElse() {
        SilentRent x = Due.told("r24;t12 5 7 3;");
        x.book(0, 3);
        Due.typed(x, "r");
        x.mark(0, 0);
        x.keep(0);
        x.book(0, 4);
        Due.typed(x, "9;");
        x.mark(1, 0);
        x.back(0);
        due.is("the book stays", x.count(3), 2);
        due.is("the text stays", x.count(5), 3);
        due.is("the trace stays", x.trace(), 12);
        x.moves(0, 0);
        x.book(0, 5);
        x.undo();
        due.is("the book is not undone", x.count(3), 3);
    }

    private static void counts() {
        SilentRent x = Due.told("r1;r2;r3;t0 0 0 1;t0 0 0 1;c1;");
        Due.typed(x, "abcd");
        x.moves(0, 0);
        x.evening();
        x.talks(0, 1, 0);
        x.undo();
        x.book(0, 0);
        int[] want = {3, 2, 1, 1, 2, 4};
        for (int what = 0; what < 6; what++) {
            due.is("count(" + what + ")", x.count(what), want[what]);
        }
        due.is("count(6)", x.count(6), BAD);
        due.is("count(-1)", x.count(-1), BAD);
    }
}

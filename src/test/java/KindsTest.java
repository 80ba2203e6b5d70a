/** Promises 28 to 32: marks, images, counts, the trace. */
public final class KindsTest {
    private static final int BAD = SilentRent.BAD, STATE = SilentRent.STATE, NO = SilentRent.NO, NONE = SilentRent.NONE;
    private static final Due due = new Due("KindsTest");
    private static final Twins twins = new Twins(due);
    private static final int[] NO_NUMBERS = {Integer.MIN_VALUE, -1000000, -9, -2, -1, 6, 7, 32, 64, 256, Integer.MAX_VALUE};

    public static void main(String[] args) {
        marks();
        marksAtTheEdges();
        marksRefused();
        kept();
        allSixAreKept();
        keptOver();
        allThatMayBeUndone();
        imagesKeepNothingElse();
        imagesRefused();
        counts();
        countsRefused();
        trace();
        due.end();
    }

    private static void mark(SilentRent x, int kind, int t, int want, long comes) {
        long before = x.trace();
        due.is("mark(" + kind + ", " + t + ")", x.mark(kind, t), want);
        due.is("what comes to the trace by mark(" + kind + ", " + t + ")", x.trace() - before, comes);
    }

    private static void marks() {
        due.of(28, "KINDS of TENANTS are over one another: 0 TENANT; 1 TALKER, 2 MUTE, 5 LAWYER (each under TENANT); 3 WHISTLER (under TALKER); 4 HIRED (under MUTE).");
        due.of(28, "MARK of a TENANT as if of a KIND (numbers in brackets come to THE TRACE as often as mark() asks that body; "
            + "\"up\" is what the KIND above does):");
        SilentRent x = Due.told("r24;t12 5 7 3;t0 0 9 1;");
        x.moves(0, 0);
        x.evening();
        x.evening();
        due.of(28, "TENANT his DEBT (1).");
        mark(x, 0, 0, 24, 1);
        due.of(28, "TALKER up, and his MUST (10).");
        mark(x, 1, 0, 29, 11);
        due.of(28, "MUTE up less his WITS (100).");
        mark(x, 2, 0, 17, 101);
        due.of(28, "WHISTLER up times 2 (1000).");
        mark(x, 3, 0, 58, 1011);
        due.of(28, "HIRED up, and what he ASKS (10000).");
        mark(x, 4, 0, 20, 10101);
        due.of(28, "LAWYER up, and the DAY (100000).");
        mark(x, 5, 0, 26, 100001);
        due.is("trace()", x.trace(), 111226);
        x.undo();
        mark(x, 5, 0, 13, 100001);
    }

    private static void marksAtTheEdges() {
        due.of(28, "MARK.");
        SilentRent x = Due.told("r24;t12 12 9 9;t0 0 0 1;t0 0 9 1;t0 0 1 1;");
        int[][] want = {{0, 12, -9, 24, 0, 0}, {0, 0, 0, 0, 1, 0}, {0, 0, -9, 0, -8, 0}, {0, 0, -1, 0, 0, 0}};
        for (int t = 0; t < 4; t++) {
            for (int kind = 0; kind < 6; kind++) {
                due.is("no debts, mark(" + kind + ", " + t + ")", x.mark(kind, t), want[t][kind]);
            }
        }
        x.moves(0, 0);
        for (int day = 0; day < 99; day++) {
            x.evening();
        }
        int[] late = {1188, 1200, 1179, 2400, 1188, 1287};
        for (int kind = 0; kind < 6; kind++) {
            due.is("day 99, mark(" + kind + ", 0)", x.mark(kind, 0), late[kind]);
        }
        due.is("who lives nowhere, day 99", x.mark(5, 1), 99);
    }

    private static void marksRefused() {
        due.of(28, "NO: BAD.");
        for (int no : NO_NUMBERS) {
            twins.refused("mark(" + no + ", 0)", Stories.BUSY, x -> x.mark(no, 0), NO);
            twins.refused("mark(0, " + no + ")", Stories.AT_ITS_LIMITS, x -> x.mark(0, no), NO);
            twins.refused("mark(5, " + no + ")", Stories.BUSY, x -> x.mark(5, no), NO);
            twins.refused("mark(" + no + ", " + no + ")", Stories.BUSY, x -> x.mark(no, no), NO);
        }
        twins.refused("mark(0, 4) of four", Stories.BUSY, x -> x.mark(0, 4), NO);
        twins.refused("mark(0, 0) of none", Stories.NOTHING, x -> x.mark(0, 0), NO);
    }

    private static void kept() {
        due.of(29, "An IMAGE is kept: the DAY.");
        SilentRent x = Due.told("r24;r2;t12 5 7 3;t0 0 9 1;");
        x.moves(0, 0);
        x.talks(0, 3, 1);
        due.is("keep(0)", x.keep(0), 0);
        x.evening();
        x.moves(0, 1);
        x.moves(1, 0);
        x.lends(1, 0, 5);
        x.talks(1, 3, 1);
        due.is("keep(1)", x.keep(1), 1);
        due.of(30, "All of that becomes as an IMAGE has it: the DAY.");
        due.of(30, "IMAGES 0, 1 keep NOW (who LIVES where, TALKED, PAYS, DEBTS, the DAY, what may be UNDONE);");
        due.is("back(0)", x.back(0), 0);
        due.is("home 0", x.tenant(0, 4), 0);
        due.is("home 1", x.tenant(1, 4), NONE);
        due.is("talked", x.tenant(0, 5), 3);
        due.is("pays", x.tenant(1, 6), 3);
        due.is("debts", x.now(1), 0);
        due.is("day", x.now(0), 0);
        due.is("what may be undone", x.count(4), 2);
        due.is("undo()", x.undo(), 1);
        due.is("undo()", x.undo(), 0);
        due.is("nowhere", x.tenant(0, 4), NONE);
        due.is("undo()", x.undo(), STATE);
        due.is("back(1)", x.back(1), 1);
        due.is("home 0", x.tenant(0, 4), 1);
        due.is("debt 1", x.tenant(1, 7), 5);
        due.is("debt 0", x.tenant(0, 7), 7);
        due.is("what may be undone", x.count(4), 7);
        due.is("the talk", x.undo(), 6);
        due.is("the loan", x.undo(), 5);
        due.is("debt 0", x.tenant(0, 7), 12);
        due.is("an image stays", x.back(1), 1);
        due.is("debt 0", x.tenant(0, 7), 7);
        SilentRent y = new SilentRent();
        Stories.AT_ITS_LIMITS.tell(y);
        due.is("back to the last day", y.back(1), 99);
        due.is("keep(1) on the last day", y.keep(1), 99);
        SilentRent nobody = new SilentRent();
        due.is("nobody's image", nobody.keep(1), 0);
        nobody.evening();
        due.is("back to it", nobody.back(1), 0);
        due.is("nothing may be undone", nobody.undo(), STATE);
    }

    private static void allSixAreKept() {
        due.of(30, "IMAGES 0, 1 keep NOW (who LIVES where, TALKED, PAYS, DEBTS, the DAY, what may be UNDONE);");
        for (int image = 0; image < 2; image++) {
            SilentRent x = new SilentRent();
            Stories.SIX.tell(x);
            x.keep(image);
            allElse(x);
            due.is("back", x.back(image), 1);
            Stories.asSix(due, "back", x);
            // The way back from a move of the last one is kept, too.
            x.moves(5, -1);
            x.keep(image);
            allElse(x);
            x.back(image);
            due.is("back, and the move is undone", x.undo(), 9);
            Stories.asSix(due, "back, and the move is undone", x);
        }
    }

    /** All six live, talk, pay and owe otherwise then. */
    private static void allElse(SilentRent x) {
        for (int t = 0; t < 6; t++) {
            x.moves(t, -1);
            x.lends((t + 1) % 6, t, 3 + t);
        }
        for (int t = 0; t < 6; t++) {
            x.moves(t, t);
        }
        x.evening();
        for (int t = 0; t < 6; t++) {
            x.talks(t, 12, t);
        }
    }

    private static void keptOver() {
        due.of(29, "An IMAGE is kept: the DAY.");
        // The busy house has kept both already: what is kept over is gone, what is kept then is as if nothing had been since.
        for (int image = 0; image < 2; image++) {
            int which = image;
            Twins.Story keeping = x -> {
                Stories.BUSY.tell(x);
                x.keep(which);
            };
            twins.alike("image " + image + ", much later", keeping, x -> {
                keeping.tell(x);
                x.moves(0, -1);
                x.moves(3, 0);
                x.talks(0, 5, 0);
                x.evening();
                x.lends(2, 0, 1);
                x.undo();
                x.undo();
                x.undo();
                x.undo();
                x.back(which);
            });
        }
        twins.alike("an image is there however often one goes back", Stories.AT_ITS_LIMITS, x -> {
            Stories.AT_ITS_LIMITS.tell(x);
            for (int i = 0; i < 5; i++) {
                x.moves(i, -1);
                x.back(i % 2);
            }
        });
    }

    private static void allThatMayBeUndone() {
        due.of(30, "IMAGES 0, 1 keep NOW (who LIVES where, TALKED, PAYS, DEBTS, the DAY, what may be UNDONE);");
        for (int many = 9; many <= 12; many++) {
            SilentRent x = Due.told("t0 0 0 1;");
            for (int h = 1; h <= many; h++) {
                x.talks(0, 1, 0);
            }
            x.keep(1);
            for (int h = many + 1; h <= 24; h++) {
                x.talks(0, 1, 0);
            }
            x.keep(0);
            x.back(1);
            int known = Math.min(many, 10);
            due.is("what may be undone", x.count(4), known);
            for (int left = known - 1; left >= 0; left--) {
                due.is("undo()", x.undo(), left);
                due.is("talked", x.tenant(0, 5), many - known + left);
            }
            due.is("older ones are lost", x.undo(), STATE);
            due.is("the other image", x.back(0), 0);
            due.is("what may be undone", x.count(4), 10);
            due.is("undo()", x.undo(), 9);
            due.is("talked", x.tenant(0, 5), 23);
            // One more than the ten that an image brings back: its oldest is lost.
            x.back(0);
            x.evening();
            due.is("what may be undone", x.count(4), 10);
            for (int left = 9; left >= 0; left--) {
                due.is("undo()", x.undo(), left);
                due.is("talked", x.tenant(0, 5), 15 + left);
            }
            due.is("older ones are lost", x.undo(), STATE);
        }
    }

    private static void imagesKeepNothingElse() {
        due.of(30, "nothing else.");
        SilentRent x = Due.told("r24;t12 5 7 3;");
        x.book(0, 3);
        Due.typed(x, "r");
        x.mark(0, 0);
        x.keep(0);
        x.book(0, 4);
        Due.typed(x, "9;");
        x.mark(1, 0);
        x.keep(1);
        x.moves(0, 0);
        x.back(0);
        due.is("the book stays", x.count(3), 2);
        due.is("the text stays", x.count(5), 3);
        due.is("the trace stays", x.trace(), 12);
        due.is("the other image stays", x.back(1), 0);
        x.moves(0, 0);
        x.book(0, 5);
        x.undo();
        due.is("the book is not undone", x.count(3), 3);
        due.is("the text is not undone", x.count(5), 3);
        due.is("the trace is not undone", x.trace(), 12);
        due.is("the images are not undone", x.back(0), 0);
    }

    private static void imagesRefused() {
        for (int no : new int[] {Integer.MIN_VALUE, -9, -2, -1, 2, 3, 32, 256, 65536, Integer.MAX_VALUE}) {
            due.of(29, "BAD.");
            twins.refused("keep(" + no + ")", Stories.BUSY, x -> x.keep(no), BAD);
            due.of(30, "BAD; STATE: none was kept.");
            twins.refused("back(" + no + ")", Stories.BUSY, x -> x.back(no), BAD);
            twins.refused("BAD ahead of STATE, back(" + no + ")", Stories.TOLD, x -> x.back(no), BAD);
        }
        for (int image = 0; image < 2; image++) {
            int which = image;
            twins.refused("back(" + image + "), nobody", Stories.NOTHING, x -> x.back(which), STATE);
            twins.refused("back(" + image + "), none was kept", Stories.TOLD, x -> x.back(which), STATE);
            twins.refused("back(" + image + "), only the other one was", x -> {
                Stories.TOLD.tell(x);
                x.moves(0, 0);
                x.keep(1 - which);
                x.moves(1, 1);
            }, x -> x.back(which), STATE);
            twins.refused("back(" + image + "), a new house was told since", x -> {
                Stories.BUSY.tell(x);
                x.clear();
                x.house();
            }, x -> x.back(which), STATE);
        }
    }

    private static void counts() {
        due.of(31, "0 ROOMS, 1 TENANTS, 2 CHAIRS, 3 lines of THE BOOK, 4 how many may be UNDONE, 5 bytes of THE TEXT.");
        SilentRent x = Due.told("r1;r2;r3;t0 0 0 1;t0 0 0 1;c1;");
        Due.typed(x, "abcd");
        x.moves(0, 0);
        x.evening();
        x.talks(0, 1, 0);
        x.undo();
        x.book(0, 0);
        int[] want = {3, 2, 1, 1, 2, 4};
        SilentRent most = new SilentRent();
        Stories.AT_ITS_LIMITS.tell(most);
        Due.typed(most, " ".repeat(200));
        int[] wantMost = {6, 6, 5, 6, 10, 200};
        for (int what = 0; what < 6; what++) {
            due.is("count(" + what + ")", x.count(what), want[what]);
            due.is("as many as can be, count(" + what + ")", most.count(what), wantMost[what]);
            due.is("none, count(" + what + ")", new SilentRent().count(what), 0);
        }
    }

    private static void countsRefused() {
        due.of(31, "BAD.");
        for (int no : NO_NUMBERS) {
            twins.refused("count(" + no + ")", Stories.BUSY, x -> x.count(no), BAD);
            twins.refused("count(" + no + ")", Stories.NOTHING, x -> x.count(no), BAD);
        }
    }

    private static void trace() {
        due.of(32, "THE TRACE.");
        SilentRent x = Due.told("t0 0 0 1;");
        due.is("nothing yet", x.trace(), 0);
        for (int i = 1; i <= 400; i++) {
            x.mark(5, 0);
        }
        due.is("400 lawyers", x.trace(), 40000400);
        due.is("asked twice", x.trace(), 40000400);
        x.mark(6, 0);
        x.mark(0, 1);
        due.is("refused marks bring nothing", x.trace(), 40000400);
        x.house();
        x.burn();
        x.clear();
        x.keep(0);
        x.back(0);
        x.evening();
        x.undo();
        due.is("no other call brings anything or takes it", x.trace(), 40000400);
    }
}

/** Promises 24 to 27: the book, who lived where. */
public final class BookTest {
    private static final Due due = new Due("BookTest");
    private static final int BAD = SilentRent.BAD, FULL = SilentRent.FULL, NONE = SilentRent.NONE;

    public static void main(String[] args) {
        lines();
        empty();
        whatFits();
        nothingFits();
        due.end();
    }

    private static void lines() {
        SilentRent x = Due.told("r10;t0 0 0 1;");
        due.is("book(1, 0)", x.book(1, 0), BAD);
        due.is("book(-1, 0)", x.book(-1, 0), BAD);
        due.is("book(0, -1)", x.book(0, -1), BAD);
        due.is("book(0, 25)", x.book(0, 25), BAD);
        due.is("book(0, 24)", x.book(0, 24), 1);
        for (int n = 2; n <= 6; n++) {
            due.is("line " + n, x.book(0, 0), n);
        }
        due.is("a seventh line", x.book(0, 0), FULL);
        due.is("BAD ahead of FULL", x.book(0, 25), BAD);
        due.is("count(3)", x.count(3), 6);
        due.is("burn()", x.burn(), 6);
        due.is("burn() again", x.burn(), 0);
        due.is("count(3)", x.count(3), 0);
        due.is("a line again", x.book(0, 0), 1);
    }

    private static void empty() {
        SilentRent x = new SilentRent();
        due.is("nobody: one way", x.fits(-1), 1);
        due.is("fits(0)", x.fits(0), BAD);
        due.is("may(0)", x.may(0), BAD);
        x = Due.told("r24;r24;r24;t12 12 0 1;t12 12 0 1;");
        due.is("met or not", x.fits(-1), 6);
        due.is("the first", x.fits(0), 0);
        due.is("the first", x.fits(1), 1);
        due.is("may(0)", x.may(0), 7);
        due.is("fits(2)", x.fits(2), BAD);
        due.is("fits(-2)", x.fits(-2), BAD);
        due.is("may(2)", x.may(2), BAD);
        due.is("may(-1)", x.may(-1), BAD);
    }

    private static void whatFits() {
        SilentRent x = Due.told("r10;r14;r5;r14;t12 2 0 1;t12 5 0 1;t0 0 0 1;");
        due.is("all ways", x.fits(-1), 24);
        x.book(0, 4);
        due.is("he lacked 4", x.fits(-1), 12);
        due.is("fits(0)", x.fits(0), 1);
        due.is("fits(1)", x.fits(1), 0);
        due.is("fits(2)", x.fits(2), 2);
        due.is("may(0)", x.may(0), 10);
        due.is("may(1)", x.may(1), 15);
        x.book(1, 0);
        due.is("he lacked nothing: it was cheap", x.fits(-1), 4);
        due.is("may(1)", x.may(1), 4);
        due.is("may(2)", x.may(2), 11);
        due.is("fits(1)", x.fits(1), 2);
        due.is("fits(2)", x.fits(2), 0);
        x.book(2, 0);
        due.is("that tells nothing", x.fits(-1), 4);
        x.moves(0, 0);
        due.is("who lives where now does not matter", x.fits(-1), 4);
        x.book(0, 4);
        due.is("twice the same", x.fits(-1), 4);
        x.book(0, 3);
        due.is("unlike ones", x.fits(-1), 0);
        due.is("fits(0)", x.fits(0), NONE);
        due.is("may(2)", x.may(2), 0);
        x.burn();
        due.is("burnt", x.fits(-1), 24);
    }

    private static void nothingFits() {
        SilentRent x = Due.told("r10;t0 0 0 1;t0 0 0 1;");
        due.is("more tenants than rooms", x.fits(-1), 0);
        due.is("fits(0)", x.fits(0), NONE);
        due.is("fits(1)", x.fits(1), NONE);
        due.is("may(0)", x.may(0), 0);
        // Both lacked as in the one dear room.
        x = Due.told("r14;r5;t12 2 0 1;t12 2 0 1;");
        x.book(0, 4);
        x.book(1, 4);
        due.is("nobody shares one", x.fits(-1), 0);
        due.is("fits(0)", x.fits(0), NONE);
        due.is("may(0)", x.may(0), 0);
        // The first one may be in both, the second one in one only.
        x = Due.told("r14;r14;r5;t12 2 0 1;t12 2 0 1;t12 12 0 1;");
        x.book(0, 4);
        x.book(2, 14);
        due.is("ways", x.fits(-1), 2);
        due.is("fits(0)", x.fits(0), 0);
        due.is("fits(1)", x.fits(1), 2);
        due.is("fits(2)", x.fits(2), 1);
        due.is("may(1)", x.may(1), 4);
    }
}

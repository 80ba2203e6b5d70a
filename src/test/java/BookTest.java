/** Promises 24 to 27: the book, who lived where. */
public final class BookTest {
    private static final int BAD = SilentRent.BAD, FULL = SilentRent.FULL, NONE = SilentRent.NONE;
    private static final Due due = new Due("BookTest");
    private static final Twins twins = new Twins(due);
    private static final int[] NO_TENANTS = {Integer.MIN_VALUE, -1000000, -9, -2, -1, 6, 32, 64, 256, Integer.MAX_VALUE};

    public static void main(String[] args) {
        lines();
        linesRefused();
        burnt();
        waysToHaveRooms();
        whatWasLacked();
        lackedAtTheEdges();
        theFirstWay();
        nothingFits();
        houseAfterHouse();
        fitsRefused();
        roomsBySome();
        everyOrder();
        mayRefused();
        due.end();
    }

    private static void lines() {
        due.of(24, "A line of THE BOOK: how many.");
        SilentRent x = Due.told("r10;t0 0 0 1;t0 0 0 1;");
        due.is("count(3)", x.count(3), 0);
        due.is("lacks 0", x.book(0, 0), 1);
        due.is("lacks 24", x.book(1, 24), 2);
        due.is("the same again", x.book(1, 24), 3);
        due.is("unlike ones", x.book(1, 23), 4);
        due.is("count(3)", x.count(3), 4);
        due.is("a fifth", x.book(0, 1), 5);
        due.is("a sixth", x.book(0, 2), 6);
        due.of(24, "THE BOOK (6 at most):");
        due.is("a seventh", x.book(0, 3), FULL);
        due.is("count(3)", x.count(3), 6);
        x.burn();
        due.is("there is room again", x.book(0, 3), 1);
    }

    private static void linesRefused() {
        due.of(24, "BAD; FULL.");
        twins.refused("a seventh line", Stories.AT_ITS_LIMITS, x -> x.book(0, 0), FULL);
        twins.refused("a seventh line that another one is like", Stories.AT_ITS_LIMITS, x -> x.book(5, 0), FULL);
        for (int lacks : new int[] {Integer.MIN_VALUE, -24, -1, 25, 26, 99, 256, 65536, Integer.MAX_VALUE}) {
            twins.refused("book(0, " + lacks + ")", Stories.BUSY, x -> x.book(0, lacks), BAD);
            twins.refused("BAD ahead of FULL, book(0, " + lacks + ")", Stories.AT_ITS_LIMITS, x -> x.book(0, lacks), BAD);
        }
        for (int no : NO_TENANTS) {
            twins.refused("book(" + no + ", 0)", Stories.BUSY, x -> x.book(no, 0), BAD);
            twins.refused("BAD ahead of FULL, book(" + no + ", 0)", Stories.AT_ITS_LIMITS, x -> x.book(no, 0), BAD);
        }
        twins.refused("book(4, 0) of four", Stories.BUSY, x -> x.book(4, 0), BAD);
        twins.refused("book(0, 0) of none", Stories.NOTHING, x -> x.book(0, 0), BAD);
    }

    private static void burnt() {
        due.of(25, "THE BOOK is empty: how many lines it had.");
        SilentRent x = Due.told("r10;r0;t12 12 0 1;");
        due.is("burn() of nothing", x.burn(), 0);
        x.book(0, 10);
        due.is("one way", x.fits(-1), 1);
        due.is("burn() of one", x.burn(), 1);
        due.is("count(3)", x.count(3), 0);
        due.is("burn() again", x.burn(), 0);
        due.is("all ways", x.fits(-1), 2);
        for (int line = 1; line <= 6; line++) {
            x.book(0, 9);
        }
        due.is("no way", x.fits(-1), 0);
        due.is("burn() of six", x.burn(), 6);
        due.is("all ways", x.fits(-1), 2);
        due.is("a new line is the first", x.book(0, 0), 1);
        due.is("it alone counts", x.fits(0), 1);
        due.is("nobody's book", new SilentRent().burn(), 0);
        twins.alike("burn() changes nothing else", Stories.TOLD, y -> {
            Stories.TOLD.tell(y);
            y.book(0, 1);
            y.book(1, 2);
            y.burn();
        });
    }

    private static void waysToHaveRooms() {
        due.of(26, "FITS: t = -1 how many, else his ROOM in the first (NONE).");
        due.of(26, "FITS: ways in which TENANTS (all) have ROOMS (nobody shares one; met or not) by which all that is in it was so: how many;");
        due.is("nobody: one way", new SilentRent().fits(-1), 1);
        due.is("nobody, a room: one way", Due.told("r5;").fits(-1), 1);
        due.is("nobody, six rooms: one way", Due.told("r5;".repeat(6)).fits(-1), 1);
        int[] ways = {1, 6, 30, 120, 360, 720, 720};
        for (int many = 1; many <= 6; many++) {
            SilentRent x = Due.told("r24;".repeat(6) + "t12 12 0 1;".repeat(many));
            due.is(many + " tenants, six rooms, met or not", x.fits(-1), ways[many]);
            for (int t = 0; t < many; t++) {
                due.is("the first, " + t, x.fits(t), t);
            }
            due.is("one too many", x.fits(many), BAD);
        }
        due.of(26, "(More TENANTS than ROOMS: none.)");
        for (int many = 1; many <= 6; many++) {
            SilentRent x = Due.told("r0;".repeat(many - 1) + "t0 0 0 1;".repeat(many));
            due.is("one tenant more than rooms", x.fits(-1), 0);
            due.is("the first has none", x.fits(0), NONE);
            due.is("the last has none", x.fits(many - 1), NONE);
            due.is("as many rooms as tenants", Due.told("r0;".repeat(many) + "t0 0 0 1;".repeat(many)).fits(0), 0);
        }
    }

    private static void whatWasLacked() {
        due.of(26, "a TENANT who said just what he MUST lacked so many hours (0 .. 24) of his PRICE one day.");
        SilentRent x = Due.told("r10;r14;r5;r14;t12 2 0 1;t12 5 0 1;t0 0 0 1;");
        due.is("all ways", x.fits(-1), 24);
        x.book(0, 4);
        due.is("he lacked 4", x.fits(-1), 12);
        due.is("fits(0)", x.fits(0), 1);
        due.is("fits(1)", x.fits(1), 0);
        due.is("fits(2)", x.fits(2), 2);
        x.book(1, 0);
        due.is("he lacked nothing: it was cheap", x.fits(-1), 4);
        due.is("fits(1)", x.fits(1), 2);
        due.is("fits(2)", x.fits(2), 0);
        x.book(2, 0);
        due.is("that tells nothing", x.fits(-1), 4);
        x.moves(0, 0);
        x.talks(0, 5, 0);
        due.is("who lives where now, and what he says, does not matter", x.fits(-1), 4);
        x.book(0, 4);
        due.is("twice the same", x.fits(-1), 4);
        x.book(0, 3);
        due.is("unlike ones", x.fits(-1), 0);
        due.is("fits(0)", x.fits(0), NONE);
        x.burn();
        due.is("burnt", x.fits(-1), 24);
    }

    private static void lacks(String text, int lacks, int ways) {
        SilentRent x = Due.told(text);
        x.book(0, lacks);
        due.is(text + ", lacked " + lacks, x.fits(-1), ways);
    }

    private static void lackedAtTheEdges() {
        due.of(26, "lacked so many hours (0 .. 24) of his PRICE one day.");
        lacks("r24;t12 12 0 1;", 24, 1);
        lacks("r24;t12 12 0 1;", 23, 0);
        lacks("r24;t12 12 0 1;", 0, 0);
        lacks("r24;t12 11 0 1;", 23, 1);
        lacks("r24;t12 11 0 1;", 24, 0);
        // Just met, one hour less, one hour more.
        lacks("r12;t12 0 0 1;", 0, 1);
        lacks("r13;t12 0 0 1;", 0, 0);
        lacks("r13;t12 0 0 1;", 1, 1);
        lacks("r11;t12 0 0 1;", 0, 1);
        lacks("r11;t12 0 0 1;", 1, 0);
        lacks("r0;t0 0 0 1;", 0, 1);
        lacks("r0;t0 0 0 1;", 24, 0);
        lacks("r0;t12 12 0 1;", 0, 1);
        // Six lines, the last of which is the one that rules a way out.
        SilentRent x = Due.told("r24;r24;t12 12 0 1;t12 11 0 1;");
        for (int line = 0; line < 5; line++) {
            x.book(0, 24);
        }
        due.is("five lines", x.fits(-1), 2);
        due.is("the sixth", x.book(1, 22), 6);
        due.is("six lines", x.fits(-1), 0);
    }

    private static void theFirstWay() {
        due.of(26, "the ROOM of a TENANT in the first (TENANT by TENANT the lesser ROOM);");
        // The first one may be in both dear rooms, the third one in the cheap one only.
        SilentRent x = Due.told("r14;r14;r5;t12 2 0 1;t12 2 0 1;t12 12 0 1;");
        x.book(0, 4);
        x.book(2, 14);
        due.is("ways", x.fits(-1), 2);
        due.is("fits(0)", x.fits(0), 0);
        due.is("fits(1)", x.fits(1), 2);
        due.is("fits(2)", x.fits(2), 1);
        // The last one can be in the last room alone: the others share out the lesser ones in their order.
        SilentRent y = Due.told("r20;r20;r13;t12 0 0 1;t0 0 0 1;t12 0 0 1;");
        y.book(2, 1);
        due.is("fits(0)", y.fits(0), 0);
        due.is("fits(1)", y.fits(1), 1);
        due.is("fits(2)", y.fits(2), 2);
        SilentRent z = Due.told("r13;r20;t12 0 0 1;t12 0 0 1;");
        z.book(1, 1);
        due.is("the lesser room is another one's", z.fits(0), 1);
        due.is("fits(1)", z.fits(1), 0);
    }

    private static void nothingFits() {
        due.of(26, "FITS: t = -1 how many, else his ROOM in the first (NONE).");
        // Both lacked as in the one dear room.
        SilentRent x = Due.told("r14;r5;t12 2 0 1;t12 2 0 1;");
        x.book(0, 4);
        due.is("one of them", x.fits(-1), 1);
        x.book(1, 4);
        due.is("nobody shares one", x.fits(-1), 0);
        due.is("fits(0)", x.fits(0), NONE);
        due.is("fits(1)", x.fits(1), NONE);
    }

    /** What was found out for one house has no weight in the next one. */
    private static void houseAfterHouse() {
        due.of(26, "FITS: t = -1 how many, else his ROOM in the first (NONE).");
        SilentRent x = new SilentRent();
        fitsAnew(x, "r1;r1;r1;r1;r1;r1;" + "t0 0 0 1;".repeat(6), 720, 0, 63);
        fitsAnew(x, "r1;" + "t0 0 0 1;".repeat(6), 0, NONE, 0);
        fitsAnew(x, "r1;r1;t0 0 0 1;", 2, 0, 3);
        fitsAnew(x, "t0 0 0 1;", 0, NONE, 0);
        fitsAnew(x, "r1;r1;r1;t0 0 0 1;t0 0 0 1;", 6, 0, 7);
    }

    private static void fitsAnew(SilentRent x, String text, int ways, int first, int some) {
        Due.typed(x, text);
        x.house();
        due.is("anew " + text + " fits(-1)", x.fits(-1), ways);
        due.is("anew " + text + " fits(0)", x.fits(0), first);
        due.is("anew " + text + " may(0)", x.may(0), some);
    }

    private static void fitsRefused() {
        due.of(26, "BAD.");
        for (int no : NO_TENANTS) {
            if (no != -1) {
                twins.refused("fits(" + no + ")", Stories.AT_ITS_LIMITS, x -> x.fits(no), BAD);
            }
        }
        twins.refused("fits(4) of four", Stories.BUSY, x -> x.fits(4), BAD);
        twins.refused("fits(0) of none", Stories.NOTHING, x -> x.fits(0), BAD);
        twins.refused("fits(-2) of none", Stories.NOTHING, x -> x.fits(-2), BAD);
    }

    private static void roomsBySome() {
        due.of(27, "FITS: ROOMS in which a TENANT is by some, as bits.");
        due.of(27, "ROOMS in which he is by some (bits).");
        SilentRent x = Due.told("r24;r24;r24;t12 12 0 1;t12 12 0 1;");
        due.is("any", x.may(0), 7);
        due.is("any", x.may(1), 7);
        x.book(0, 24);
        due.is("all rooms alike", x.may(1), 7);
        x.book(1, 23);
        due.is("no way: none", x.may(0), 0);
        due.is("no way: none", x.may(1), 0);
        SilentRent y = Due.told("r10;r14;r5;r14;t12 2 0 1;t12 5 0 1;t0 0 0 1;");
        y.book(0, 4);
        due.is("may(0)", y.may(0), 10);
        due.is("may(1)", y.may(1), 15);
        due.is("may(2)", y.may(2), 15);
        y.book(1, 0);
        due.is("may(0)", y.may(0), 10);
        due.is("may(1)", y.may(1), 4);
        due.is("may(2): not where another one must be", y.may(2), 11);
        // The dear rooms are for two others: the last one can't be there, though nothing is told of him.
        SilentRent z = Due.told("r14;r14;r5;t12 2 0 1;t12 2 0 1;t12 12 0 1;");
        z.book(0, 4);
        z.book(1, 4);
        due.is("may(0)", z.may(0), 3);
        due.is("may(1)", z.may(1), 3);
        due.is("may(2)", z.may(2), 4);
        SilentRent six = Due.told("r24;".repeat(6) + "t12 12 0 1;".repeat(6));
        due.is("the first of six", six.may(0), 63);
        due.is("the last of six", six.may(5), 63);
        due.is("more tenants than rooms", Due.told("r5;t0 0 0 1;t0 0 0 1;").may(0), 0);
        due.is("no rooms", Due.told("t0 0 0 1;").may(0), 0);
    }

    /** Six who lacked six prices in all orders; of two of them nothing is told: they have the two rooms left, by turns. */
    private static void everyOrder() {
        due.of(27, "ROOMS in which he is by some (bits).");
        for (int[] room : Orders.of(6)) {
            StringBuilder b = new StringBuilder();
            for (int r = 0; r < 6; r++) {
                b.append("r").append(19 + r).append(";t12 12 0 1;");
            }
            // Two of the six are let out, another pair in the next order.
            int one = room[0];
            int other = room[1];
            SilentRent x = Due.told(b.toString());
            for (int t = 0; t < 6; t++) {
                if (t != one && t != other) {
                    x.book(t, 19 + room[t]);
                }
            }
            int left = 1 << room[one] | 1 << room[other];
            int least = Math.min(room[one], room[other]);
            int most = Math.max(room[one], room[other]);
            due.is("two ways", x.fits(-1), 2);
            for (int t = 0; t < 6; t++) {
                boolean free = t == one || t == other;
                due.is("may(" + t + ")", x.may(t), free ? left : 1 << room[t]);
                int first = t == Math.min(one, other) ? least : most;
                due.is("fits(" + t + ")", x.fits(t), free ? first : room[t]);
            }
            x.book(one, 19 + room[one]);
            due.is("one way", x.fits(-1), 1);
            due.is("where he was", x.may(other), 1 << room[other]);
            due.is("where he was", x.fits(other), room[other]);
            due.is("the last line", x.book(other, 19 + room[other]), 6);
            due.is("nothing new", x.fits(-1), 1);
        }
    }

    private static void mayRefused() {
        due.of(27, "BAD.");
        for (int no : NO_TENANTS) {
            twins.refused("may(" + no + ")", Stories.AT_ITS_LIMITS, x -> x.may(no), BAD);
        }
        twins.refused("may(4) of four", Stories.BUSY, x -> x.may(4), BAD);
        twins.refused("may(0) of none", Stories.NOTHING, x -> x.may(0), BAD);
        twins.refused("may(-1) of none", Stories.NOTHING, x -> x.may(-1), BAD);
    }
}

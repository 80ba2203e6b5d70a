/** Promises 14 and 15: which rooms for whom, the crowd. */
public final class RoomsTest {
    private static final Due due = new Due("RoomsTest");
    private static final int BAD = SilentRent.BAD, NONE = SilentRent.NONE;

    public static void main(String[] args) {
        nobody();
        mostTenants();
        greatestPrices();
        theFirst();
        whoLivesWhereDoesNotMatter();
        crowds();
        due.end();
    }

    /** How many, the prices, then the room of each. */
    private static void housed(String text, int many, int prices, int... rooms) {
        SilentRent x = Due.told(text);
        due.is(text + " housed(-1)", x.housed(-1), many);
        due.is(text + " housed(-2)", x.housed(-2), prices);
        for (int t = 0; t < rooms.length; t++) {
            due.is(text + " housed(" + t + ")", x.housed(t), rooms[t]);
        }
        due.is(text + " one too many", x.housed(rooms.length), BAD);
        due.is(text + " housed(-3)", x.housed(-3), BAD);
    }

    private static void nobody() {
        housed("", 0, 0);
        housed("r5;", 0, 0);
        housed("t0 0 0 1;", 0, 0, NONE);
        housed("r13;t12 0 0 1;", 0, 0, NONE);
        housed("r12;t12 0 0 1;", 1, 12, 0);
        housed("r12;t11 1 0 1;", 1, 12, 0);
        housed("r12;t11 2 0 1;", 0, 0, NONE);
    }

    private static void mostTenants() {
        // The rich one could pay for the dear room as well; two housed in cheap ones are more.
        housed("r10;r1;t12 2 0 1;t12 11 0 1;", 2, 11, 0, 1);
        housed("r5;t0 0 0 1;t0 0 0 1;", 1, 5, 0, NONE);
        housed("r0;r0;r20;t12 12 0 1;t12 12 0 1;t12 12 0 1;t4 0 0 1;", 3, 20, 0, 1, NONE, 2);
    }

    private static void greatestPrices() {
        housed("r1;r9;r5;t12 0 0 1;t12 0 0 1;", 2, 14, 1, 2);
        housed("r1;r9;t12 0 0 1;", 1, 9, 1);
        housed("r24;r24;r1;t0 0 0 1;t12 0 0 1;", 2, 25, 0, 2);
        housed("r3;r8;t12 8 0 1;t12 4 0 1;t12 4 0 1;", 2, 11, 0, 1, NONE);
    }

    private static void theFirst() {
        housed("r7;r7;r7;t0 0 0 1;t0 0 0 1;t0 0 0 1;", 3, 21, 0, 1, 2);
        housed("r7;r7;r7;t0 0 0 1;t0 0 0 1;", 2, 14, 0, 1);
        housed("r7;t0 0 0 1;t0 0 0 1;t0 0 0 1;", 1, 7, 0, NONE, NONE);
        housed("r2;r9;r9;t12 3 0 1;t12 10 0 1;t12 3 0 1;", 3, 20, 1, 0, 2);
    }

    private static void whoLivesWhereDoesNotMatter() {
        SilentRent x = Due.told("r7;r7;t0 0 0 1;t0 0 0 1;");
        x.moves(1, 0);
        due.is("housed(0)", x.housed(0), 0);
        due.is("housed(1)", x.housed(1), 1);
        due.is("nothing is changed", x.tenant(1, 4), 0);
    }

    private static void crowd(String text, int set) {
        due.is(text + " crowd()", Due.told(text).crowd(), set);
    }

    private static void crowds() {
        crowd("", NONE);
        crowd("r5;", NONE);
        crowd("r5;t0 0 0 1;", NONE);
        crowd("t0 0 0 1;", 1);
        crowd("t0 0 0 1;t0 0 0 1;", 1);
        crowd("r5;t0 0 0 1;t0 0 0 1;", 3);
        crowd("r5;t0 0 0 1;t0 0 0 1;t0 0 0 1;", 3);
        crowd("r5;r6;t0 0 0 1;t0 0 0 1;t0 0 0 1;", 7);
        // One meets none of the rooms: fewer than two who share one.
        crowd("r5;r24;t0 0 0 1;t12 7 0 1;t12 7 0 1;t12 12 0 1;", 8);
        crowd("r5;r24;t0 0 0 1;t12 7 0 1;t12 7 0 1;", 6);
        crowd("r5;r6;r24;t0 0 0 1;t12 6 0 1;t12 6 0 1;t12 6 0 1;", 14);
        crowd("r12;r12;r12;r12;r12;r12;t12 0 0 1;t12 0 0 1;t12 0 0 1;t12 0 0 1;t12 0 0 1;t12 0 0 1;", NONE);
    }
}

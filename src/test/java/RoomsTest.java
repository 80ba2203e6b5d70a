/** Promises 14 and 15: which rooms for whom, the crowd. */
public final class RoomsTest {
    private static final int BAD = SilentRent.BAD, NONE = SilentRent.NONE;
    private static final Due due = new Due("RoomsTest");
    private static final Twins twins = new Twins(due);

    public static void main(String[] args) {
        nobody();
        mostTenants();
        greatestPrices();
        theFirst();
        roomsThatTheyMeet();
        sixOfEach();
        everyOrder();
        houseAfterHouse();
        nothingIsChanged();
        housedRefused();
        crowds();
        leastBits();
        due.end();
    }

    /** How many, the prices, then the room of each; the tenant behind the last one there is not. */
    private static void housed(String text, int many, int prices, int... rooms) {
        SilentRent x = Due.told(text);
        due.is(text + " housed(-1)", x.housed(-1), many);
        due.is(text + " housed(-2)", x.housed(-2), prices);
        for (int t = 0; t < rooms.length; t++) {
            due.is(text + " housed(" + t + ")", x.housed(t), rooms[t]);
        }
        due.is(text + " one too many", x.housed(rooms.length), BAD);
        due.is(text + " housed(-3)", x.housed(-3), BAD);
    }

    private static void nobody() {
        due.of(14, "HOUSED: t = -1 how many, -2 PRICES, else his ROOM (NONE).");
        housed("", 0, 0);
        housed("r5;", 0, 0);
        housed("t0 0 0 1;", 0, 0, NONE);
        housed("r13;t12 0 0 1;", 0, 0, NONE);
        housed("r0;t12 12 0 1;", 1, 0, 0);
        housed("r24;t0 0 0 1;", 1, 24, 0);
    }

    private static void mostTenants() {
        due.of(14, "HOUSED: of all ways in which TENANTS have ROOMS that they meet (each one at most; nobody two) those of most TENANTS,");
        // The rich one could pay for the dear room as well; two housed in cheap ones are more.
        housed("r10;r1;t12 2 0 1;t12 11 0 1;", 2, 11, 0, 1);
        housed("r5;t0 0 0 1;t0 0 0 1;", 1, 5, 0, NONE);
        housed("r0;r0;r20;t12 12 0 1;t12 12 0 1;t12 12 0 1;t4 0 0 1;", 3, 20, 0, 1, NONE, 2);
        // One more of them outweighs whatever the dearest room costs.
        housed("r24;r0;t0 0 0 1;t12 12 0 1;", 2, 24, 0, 1);
        housed("r0;r24;r24;r24;t0 0 0 1;t12 12 0 1;t12 12 0 1;t12 12 0 1;", 2, 24, 1, 0, NONE, NONE);
        // Who meets many must make way along a chain.
        housed("r0;r1;r2;t12 10 0 1;t12 11 0 1;t12 12 0 1;", 3, 3, 2, 1, 0);
    }

    private static void greatestPrices() {
        due.of(14, "of these of the greatest PRICES together: how many TENANTS, the PRICES;");
        housed("r1;r9;r5;t12 0 0 1;t12 0 0 1;", 2, 14, 1, 2);
        housed("r1;r9;t12 0 0 1;", 1, 9, 1);
        housed("r24;r24;r1;t0 0 0 1;t12 0 0 1;", 2, 25, 0, 2);
        housed("r3;r8;t12 8 0 1;t12 4 0 1;t12 4 0 1;", 2, 11, 0, 1, NONE);
        housed("r4;r5;t12 7 0 1;t12 7 0 1;", 2, 9, 0, 1);
        housed("r0;r1;t12 0 0 1;", 1, 1, 1);
        housed("r23;r24;r24;t1 0 0 1;t0 0 0 1;", 2, 47, 0, 1);
    }

    private static void theFirst() {
        due.of(14, "of several ways the first (TENANT by TENANT the lesser ROOM, none behind all): the ROOM of a TENANT.");
        housed("r7;r7;r7;t0 0 0 1;t0 0 0 1;t0 0 0 1;", 3, 21, 0, 1, 2);
        housed("r7;r7;r7;t0 0 0 1;t0 0 0 1;", 2, 14, 0, 1);
        housed("r7;t0 0 0 1;t0 0 0 1;t0 0 0 1;", 1, 7, 0, NONE, NONE);
        housed("r2;r9;r9;t12 3 0 1;t12 10 0 1;t12 3 0 1;", 3, 20, 1, 0, 2);
        // The first has none only where he must have none.
        housed("r7;t12 12 0 1;t0 0 0 1;t0 0 0 1;", 1, 7, NONE, 0, NONE);
        housed("r3;r9;t12 9 0 1;t12 9 0 1;t12 3 0 1;", 2, 12, 0, NONE, 1);
        // One without a room in the midst, where the rooms that are taken are not the least ones.
        housed("r3;r0;t12 11 0 1;t12 11 0 1;t12 9 0 1;", 2, 3, 1, NONE, 0);
        housed("r1;r3;t12 7 0 1;t12 11 0 1;t12 8 0 1;", 2, 4, 0, NONE, 1);
        // The last rooms, where the lesser ones cost less.
        housed("r1;r1;r2;r2;t0 0 0 1;t0 0 0 1;", 2, 4, 2, 3);
    }

    private static void roomsThatTheyMeet() {
        due.of(14, "A ROOM is MET by a TENANT, if FREE less MUST is its PRICE at least.");
        housed("r12;t12 0 0 1;", 1, 12, 0);
        housed("r12;t11 1 0 1;", 1, 12, 0);
        housed("r12;t11 0 0 1;", 1, 12, 0);
        housed("r12;t12 1 0 1;", 0, 0, NONE);
        housed("r12;t11 2 0 1;", 0, 0, NONE);
    }

    private static void sixOfEach() {
        due.of(14, "HOUSED: of all ways in which TENANTS have ROOMS that they meet (each one at most; nobody two) those of most TENANTS,");
        String six = "t0 0 0 1;".repeat(6);
        housed("r24;".repeat(6) + six, 6, 144, 0, 1, 2, 3, 4, 5);
        housed("r24;".repeat(5) + six, 5, 120, 0, 1, 2, 3, 4, NONE);
        housed("r24;".repeat(6) + "t0 0 0 1;".repeat(5), 5, 120, 0, 1, 2, 3, 4);
        housed("r24;".repeat(6) + "t0 1 0 1;".repeat(6), 0, 0, NONE, NONE, NONE, NONE, NONE, NONE);
        housed("r7;r8;r9;r10;r11;r12;t12 0 0 1;t12 1 0 1;t12 2 0 1;t12 3 0 1;t12 4 0 1;t12 5 0 1;", 6, 57, 5, 4, 3, 2, 1, 0);
    }

    /** Six prices in all orders: he who meets the least of them alone must have that one, and so on. */
    private static void everyOrder() {
        due.of(14, "of several ways the first (TENANT by TENANT the lesser ROOM, none behind all): the ROOM of a TENANT.");
        for (int[] price : Orders.of(6)) {
            StringBuilder b = new StringBuilder();
            for (int r = 0; r < 6; r++) {
                b.append('r').append(price[r]).append(';');
            }
            int[] rooms = new int[6];
            for (int t = 0; t < 6; t++) {
                b.append("t12 ").append(12 - t).append(" 0 1;");
                rooms[t] = Orders.place(price, 6, t);
            }
            housed(b.toString(), 6, 15, rooms);
        }
    }

    private static void nothingIsChanged() {
        due.of(14, "(Nothing is changed.)");
        SilentRent x = Due.told("r7;r7;t0 0 0 1;t0 0 0 1;");
        x.moves(1, 0);
        due.is("who lives where does not matter", x.housed(0), 0);
        due.is("who lives where does not matter", x.housed(1), 1);
        due.is("he lives where he lived", x.tenant(1, 4), 0);
        Twins.Story[] ahead = {Stories.NOTHING, Stories.TOLD, Stories.BUSY, Stories.AT_ITS_LIMITS};
        for (Twins.Story story : ahead) {
            twins.alike("all questions", story, y -> {
                story.tell(y);
                askAll(y);
            });
        }
    }

    /** The questions of part 3, each once with what is there and once with what is not. */
    private static void askAll(SilentRent x) {
        for (int t : new int[] {-2, -1, 0, 5, 6}) {
            x.housed(t);
            x.spare(t);
            x.rest(t);
            x.settled(t);
            x.told(t);
            x.rounds(t);
            x.watch(t);
            x.odds(t, 0);
            x.odds(5, t);
            x.fits(t);
            x.may(t);
        }
        x.watch(15);
        x.crowd();
        x.payments();
    }

    /** What was found out for one house has no weight in the next one. */
    private static void houseAfterHouse() {
        due.of(14, "HOUSED: t = -1 how many, -2 PRICES, else his ROOM (NONE).");
        SilentRent x = new SilentRent();
        housedAnew(x, "r24;r24;r24;t0 0 0 1;t0 0 0 1;t0 0 0 1;", 3, 72, 0);
        housedAnew(x, "r1;r2;t0 0 0 1;t12 12 0 1;", 1, 2, 1);
        housedAnew(x, "r9;r9;r9;t12 0 0 1;", 1, 9, 0);
        housedAnew(x, "r24;t12 0 0 1;", 0, 0, NONE);
        housedAnew(x, "t12 0 0 1;", 0, 0, NONE);
        housedAnew(x, "r5;t12 0 0 1;t0 0 0 1;", 1, 5, 0);
        housedAnew(x, "r5;t12 12 0 1;t0 0 0 1;", 1, 5, NONE);
        housedAnew(x, "r0;r3;r0;t12 12 0 1;t12 9 0 1;t12 12 0 1;", 3, 3, 0);
    }

    private static void housedAnew(SilentRent x, String text, int many, int prices, int first) {
        Due.typed(x, text);
        x.house();
        due.is("anew " + text + " housed(-1)", x.housed(-1), many);
        due.is("anew " + text + " housed(-2)", x.housed(-2), prices);
        due.is("anew " + text + " housed(0)", x.housed(0), first);
    }

    private static void housedRefused() {
        due.of(14, "BAD.");
        for (int no : new int[] {Integer.MIN_VALUE, -1000000, -9, -3, 6, 32, 64, 256, Integer.MAX_VALUE}) {
            twins.refused("housed(" + no + ")", Stories.BUSY, x -> x.housed(no), BAD);
            twins.refused("housed(" + no + ")", Stories.AT_ITS_LIMITS, x -> x.housed(no), BAD);
            twins.refused("housed(" + no + ")", Stories.NOTHING, x -> x.housed(no), BAD);
        }
        twins.refused("housed(4) of four", Stories.BUSY, x -> x.housed(4), BAD);
        twins.refused("housed(0) of none", Stories.NOTHING, x -> x.housed(0), BAD);
    }

    private static void crowd(String text, int set) {
        due.is(text + " crowd()", Due.told(text).crowd(), set);
    }

    private static void crowds() {
        due.of(15, "CROWD, as bits; NONE.");
        crowd("", NONE);
        crowd("r5;", NONE);
        crowd("r5;t0 0 0 1;", NONE);
        crowd("t0 0 0 1;", 1);
        crowd("r12;".repeat(6) + "t12 0 0 1;".repeat(6), NONE);
        crowd("r12;".repeat(5) + "r13;" + "t12 0 0 1;".repeat(6), 63);
        crowd("r12;".repeat(5) + "t12 0 0 1;".repeat(6), 63);
        crowd("r12;".repeat(6) + "t12 0 0 1;".repeat(5), NONE);
        crowd("r12;".repeat(6) + "t12 0 0 1;".repeat(5) + "t12 1 0 1;", 32);
        due.of(15, "CROWD: the fewest TENANTS (of as few the least bits) that all together meet fewer ROOMS than they are; NONE.");
        // As many rooms as they are; one fewer.
        crowd("r5;r6;t0 0 0 1;t0 0 0 1;", NONE);
        crowd("r5;t0 0 0 1;t0 0 0 1;", 3);
        crowd("r5;r6;t0 0 0 1;t0 0 0 1;t0 0 0 1;", 7);
        // Just met, not just met.
        crowd("r12;t12 0 0 1;", NONE);
        crowd("r12;t12 1 0 1;", 1);
        // One meets none of the rooms: fewer than two who share one.
        crowd("r5;r24;t0 0 0 1;t12 7 0 1;t12 7 0 1;t12 12 0 1;", 8);
        crowd("r5;r24;t0 0 0 1;t12 7 0 1;t12 7 0 1;", 6);
        crowd("r5;r6;r24;t0 0 0 1;t12 6 0 1;t12 6 0 1;t12 6 0 1;", 14);
    }

    private static void leastBits() {
        due.of(15, "CROWD: the fewest TENANTS (of as few the least bits) that all together meet fewer ROOMS than they are; NONE.");
        crowd("t0 0 0 1;t0 0 0 1;", 1);
        crowd("r24;t0 0 0 1;t1 0 0 1;t1 0 0 1;", 2);
        crowd("r5;t0 0 0 1;t0 0 0 1;t0 0 0 1;", 3);
        crowd("r5;r24;t0 0 0 1;t12 7 0 1;t12 7 0 1;t12 7 0 1;", 6);
        crowd("r5;r24;t12 7 0 1;t0 0 0 1;t12 7 0 1;t12 7 0 1;", 5);
        // Three of one room each would be a crowd of three: 1, 2 and 4 make the least bits.
        crowd("r5;r5;r24;r24;r24;t12 7 0 1;t0 0 0 1;t12 7 0 1;t0 0 0 1;t12 7 0 1;t12 7 0 1;", 21);
        SilentRent x = new SilentRent();
        Due.typed(x, "r5;t0 0 0 1;t0 0 0 1;");
        x.house();
        x.moves(0, 0);
        due.is("who lives where does not matter", x.crowd(), 3);
    }
}

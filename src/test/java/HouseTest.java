/** Promises 5 to 7: rooms, tenants, chairs. */
public final class HouseTest {
    private static final int BAD = SilentRent.BAD, NONE = SilentRent.NONE;
    private static final Due due = new Due("HouseTest");
    private static final Twins twins = new Twins(due);
    private static final int[] NO_NUMBERS = {Integer.MIN_VALUE, -1000000, -9, -2, -1};

    public static void main(String[] args) {
        rooms();
        roomsMet();
        roomsRefused();
        tenants();
        hoursFree();
        hoursSilent();
        tenantsRefused();
        chairs();
        chairsRefused();
        due.end();
    }

    private static void rooms() {
        due.of(5, "Of a ROOM: 0 PRICE, 1 who LIVES there (NONE), 2 TENANTS by whom it is MET (bits).");
        SilentRent x = Due.told("r24;r12;r0;t0 0 0 1;t12 0 0 1;t12 12 0 1;");
        due.is("room(0, 0)", x.room(0, 0), 24);
        due.is("room(2, 0)", x.room(2, 0), 0);
        due.is("room(0, 1), nobody", x.room(0, 1), NONE);
        due.is("room(2, 1), nobody", x.room(2, 1), NONE);
        x.moves(0, 2);
        due.is("room(2, 1)", x.room(2, 1), 0);
        x.moves(2, 0);
        due.is("room(0, 1), the last tenant", x.room(0, 1), 2);
        due.is("room(1, 1), nobody", x.room(1, 1), NONE);
        x.moves(0, -1);
        due.is("room(2, 1), nobody any more", x.room(2, 1), NONE);
        due.is("room(0, 2)", x.room(0, 2), 1);
        due.is("room(1, 2)", x.room(1, 2), 3);
        due.is("room(2, 2), all", x.room(2, 2), 7);
        SilentRent y = Due.told("r5;");
        due.is("room(0, 1), no tenants", y.room(0, 1), NONE);
        due.is("room(0, 2), no tenants", y.room(0, 2), 0);
        SilentRent z = Due.told(Stories.FULL_HOUSE);
        due.is("room(5, 0)", z.room(5, 0), 24);
        z.moves(5, 5);
        due.is("room(5, 1)", z.room(5, 1), 5);
        due.is("room(4, 2), all six", z.room(4, 2), 63);
        due.is("room(5, 2)", z.room(5, 2), 32);
    }

    private static void roomsMet() {
        due.of(5, "A ROOM is MET by a TENANT, if FREE less MUST is its PRICE at least.");
        // Just met, one hour more than that, one hour less.
        SilentRent x = Due.told("r12;t12 0 0 1;t11 0 0 1;t11 1 0 1;t11 2 0 1;t0 12 0 1;t1 12 0 1;");
        due.is("room(0, 2)", x.room(0, 2), 1 + 2 + 4 + 16);
        // 24 at most, 0 at least.
        SilentRent y = Due.told("r24;r23;r1;r0;t0 0 0 1;t0 1 0 1;t1 0 0 1;t12 12 0 1;t12 11 0 1;");
        due.is("24: room(0, 2)", y.room(0, 2), 1);
        due.is("23: room(1, 2)", y.room(1, 2), 7);
        due.is("1: room(2, 2)", y.room(2, 2), 23);
        due.is("0: room(3, 2)", y.room(3, 2), 31);
        y.talks(0, 24, 0);
        due.is("whatever he talked", y.room(0, 2), 1);
    }

    private static void roomsRefused() {
        due.of(5, "BAD.");
        twins.refused("room(4, 0) of four", Stories.BUSY, x -> x.room(4, 0), BAD);
        twins.refused("room(6, 0) of six", Stories.AT_ITS_LIMITS, x -> x.room(6, 0), BAD);
        twins.refused("room(0, 0) of none", Stories.NOTHING, x -> x.room(0, 0), BAD);
        twins.refused("room(0, 3)", Stories.BUSY, x -> x.room(0, 3), BAD);
        twins.refused("room(32, 0)", Stories.BUSY, x -> x.room(32, 0), BAD);
        twins.refused("room(MAX, 0)", Stories.BUSY, x -> x.room(Integer.MAX_VALUE, 0), BAD);
        for (int no : NO_NUMBERS) {
            twins.refused("room(" + no + ", 1)", Stories.BUSY, x -> x.room(no, 1), BAD);
            twins.refused("room(0, " + no + ")", Stories.BUSY, x -> x.room(0, no), BAD);
        }
    }

    private static void tenants() {
        due.of(6, "Of a TENANT: 0 SLEEP, 1 MUST, 2 WITS, 3 ASKS, 4 his ROOM (NONE), 5 TALKED, 6 PAYS, 7 DEBT, 8 SILENT, 9 whom he hears (bits).");
        SilentRent x = Due.told("r7;r24;t5 4 3 2;t12 11 9 8;t1 2 3 4;h1 0;h1 2;h0 1;h1 0;");
        int[] first = {5, 4, 3, 2, NONE, 0, 0, 0, 19, 2};
        int[] second = {12, 11, 9, 8, NONE, 0, 0, 0, 12, 5};
        int[] third = {1, 2, 3, 4, NONE, 0, 0, 0, 23, 0};
        for (int what = 0; what < 10; what++) {
            due.is("tenant(0, " + what + ")", x.tenant(0, what), first[what]);
            due.is("tenant(1, " + what + ")", x.tenant(1, what), second[what]);
            due.is("tenant(2, " + what + ")", x.tenant(2, what), third[what]);
        }
        x.moves(0, 0);
        x.moves(1, 1);
        x.evening();
        x.talks(0, 10, 1);
        x.talks(2, 1, 2);
        int[] later = {5, 4, 3, 2, 0, 10, 0, 0, 19, 2};
        int[] payer = {12, 11, 9, 8, 1, 0, 10, 12, 2, 5};
        for (int what = 0; what < 10; what++) {
            due.is("later, tenant(0, " + what + ")", x.tenant(0, what), later[what]);
            due.is("later, tenant(1, " + what + ")", x.tenant(1, what), payer[what]);
        }
        SilentRent six = Due.told(Stories.FULL_HOUSE + "h5 3;h5 2;h5 1;h5 0;");
        due.is("tenant(5, 9), all others", six.tenant(5, 9), 31);
        due.is("tenant(0, 9)", six.tenant(0, 9), 34);
    }

    private static void hoursFree() {
        due.of(6, "FREE hours: 24 less SLEEP.");
        SilentRent x = Due.told("t0 0 0 1;t12 0 0 1;t12 12 0 1;t1 0 0 1;t11 12 0 1;");
        int[] free = {24, 12, 12, 23, 13};
        for (int t = 0; t < free.length; t++) {
            due.is("tenant(" + t + ", 8)", x.tenant(t, 8), free[t]);
        }
    }

    private static void hoursSilent() {
        due.of(6, "SILENT hours: FREE less PAYS, 0 at least.");
        // The second one has wits enough to pay for all that the others say, and 12 hours.
        SilentRent x = Due.told("t0 0 0 1;t12 0 9 1;t0 0 0 1;");
        x.talks(0, 11, 1);
        due.is("11 of 12 paid", x.tenant(1, 8), 1);
        x.talks(0, 1, 1);
        due.is("12 of 12 paid", x.tenant(1, 8), 0);
        x.talks(0, 1, 1);
        due.is("13 of 12 paid", x.tenant(1, 8), 0);
        due.is("pays", x.tenant(1, 6), 13);
        x.talks(0, 11, 1);
        x.talks(2, 24, 1);
        due.is("48 of 12 paid", x.tenant(1, 8), 0);
        due.is("pays", x.tenant(1, 6), 48);
        due.is("who pays for nothing, whatever he talked", x.tenant(0, 8), 24);
        // As much as one can pay for: four of 24 hours, one of 23, himself.
        SilentRent y = Due.told("t0 0 9 1;t0 0 8 1;t0 0 8 1;t0 0 8 1;t0 0 8 1;t1 0 8 1;");
        for (int t = 0; t < 5; t++) {
            y.talks(t, 24, 0);
        }
        y.talks(5, 23, 0);
        due.is("pays for all", y.tenant(0, 6), 143);
        due.is("silent", y.tenant(0, 8), 0);
    }

    private static void tenantsRefused() {
        due.of(6, "BAD.");
        twins.refused("tenant(4, 0) of four", Stories.BUSY, x -> x.tenant(4, 0), BAD);
        twins.refused("tenant(6, 0) of six", Stories.AT_ITS_LIMITS, x -> x.tenant(6, 0), BAD);
        twins.refused("tenant(0, 0) of none", Stories.NOTHING, x -> x.tenant(0, 0), BAD);
        twins.refused("tenant(0, 10)", Stories.BUSY, x -> x.tenant(0, 10), BAD);
        twins.refused("tenant(32, 0)", Stories.BUSY, x -> x.tenant(32, 0), BAD);
        twins.refused("tenant(0, MAX)", Stories.BUSY, x -> x.tenant(0, Integer.MAX_VALUE), BAD);
        for (int no : NO_NUMBERS) {
            twins.refused("tenant(" + no + ", 4)", Stories.BUSY, x -> x.tenant(no, 4), BAD);
            twins.refused("tenant(0, " + no + ")", Stories.BUSY, x -> x.tenant(0, no), BAD);
        }
    }

    private static void chairs() {
        due.of(7, "Whose lips are seen from a CHAIR (bits of TENANTS there are).");
        SilentRent x = Due.told("c63;c5;t0 0 0 1;c4;c0;t0 0 0 1;");
        due.is("chair(0), two tenants", x.chair(0), 3);
        due.is("chair(1)", x.chair(1), 1);
        due.is("chair(2), only who is not there", x.chair(2), 0);
        due.is("chair(3), nobody", x.chair(3), 0);
        due.is("no tenants", Due.told("c63;").chair(0), 0);
        for (int many = 1; many <= 6; many++) {
            due.is(many + " tenants", Due.told("c63;" + "t0 0 0 1;".repeat(many)).chair(0), (1 << many) - 1);
        }
        SilentRent y = Due.told("c1;c2;c4;c8;c32;" + "t0 0 0 1;".repeat(6));
        due.is("chair(4), the last tenant", y.chair(4), 32);
    }

    private static void chairsRefused() {
        due.of(7, "BAD.");
        twins.refused("chair(3) of three", Stories.BUSY, x -> x.chair(3), BAD);
        twins.refused("chair(5) of five", Stories.AT_ITS_LIMITS, x -> x.chair(5), BAD);
        twins.refused("chair(0) of none", Stories.NOTHING, x -> x.chair(0), BAD);
        twins.refused("chair(MAX)", Stories.BUSY, x -> x.chair(Integer.MAX_VALUE), BAD);
        for (int no : NO_NUMBERS) {
            twins.refused("chair(" + no + ")", Stories.BUSY, x -> x.chair(no), BAD);
        }
    }
}

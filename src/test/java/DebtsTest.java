/** Promises 16 to 19: hours to sell and to buy, debts settled. */
public final class DebtsTest {
    private static final int BAD = SilentRent.BAD, NO = SilentRent.NO;
    private static final Due due = new Due("DebtsTest");
    private static final Twins twins = new Twins(due);
    private static final int[] NO_TENANTS = {Integer.MIN_VALUE, -1000000, -9, -2, -1, 6, 32, 64, 256, Integer.MAX_VALUE};

    public static void main(String[] args) {
        spare();
        rest();
        restAtTheEdges();
        restOfTheLast();
        restRefused();
        shares();
        payments();
        mostGroups();
        settled();
        due.end();
    }

    private static void spare() {
        due.of(16, "SPARE of a TENANT who LIVES in a ROOM: FREE less MUST less PRICE; below 0 he must buy; of one who LIVES nowhere 0.");
        SilentRent x = Due.told("r10;r5;t8 10 0 1;t12 3 0 1;t0 0 0 1;");
        due.is("lives nowhere", x.spare(0), 0);
        x.moves(0, 0);
        x.moves(1, 1);
        due.is("must buy", x.spare(0), -4);
        due.is("has to sell", x.spare(1), 4);
        due.is("lives nowhere, whatever hours he has", x.spare(2), 0);
        x.talks(1, 5, 1);
        due.is("what he talked does not matter", x.spare(1), 4);
        x.moves(0, -1);
        due.is("lives nowhere any more", x.spare(0), 0);
        // As much as can be on both sides of 0, and just beside it.
        SilentRent y = Due.told("r24;r0;r12;r13;r11;r21;t12 12 0 1;t0 0 0 1;t12 0 0 1;t12 0 0 1;t12 0 0 1;t12 0 0 1;");
        int[] spare = {-24, 24, 0, -1, 1, -9};
        for (int t = 0; t < 6; t++) {
            y.moves(t, t);
            due.is("spare(" + t + ")", y.spare(t), spare[t]);
        }
        due.of(16, "SPARE. NO: BAD.");
        due.of(16, "The constants: `NO = -1000000`: What none is, where a number may be below 0.");
        due.is("NO", NO, -1000000);
        for (int no : NO_TENANTS) {
            twins.refused("spare(" + no + ")", Stories.AT_ITS_LIMITS, z -> z.spare(no), NO);
        }
        twins.refused("spare(4) of four", Stories.BUSY, z -> z.spare(4), NO);
        twins.refused("spare(0) of none", Stories.NOTHING, z -> z.spare(0), NO);
    }

    /** Each tenant lives in the room of his number. */
    private static void rests(String text, int price, int bought) {
        SilentRent x = Due.told(text);
        for (int t = 0; t < x.count(1); t++) {
            x.moves(t, t);
        }
        due.is(text + " rest(0)", x.rest(0), price);
        due.is(text + " rest(1)", x.rest(1), bought);
    }

    private static void rest() {
        due.of(17, "REST: the price (what = 0), how many are bought (1).");
        // He lacks 4 and buys for 6; the other one has 4 to sell for 3.
        rests("r10;r5;t8 10 0 6;t12 3 0 3;", 3, 4);
        // The same, the seller first.
        rests("r5;r10;t12 3 0 3;t8 10 0 6;", 3, 4);
        // Too few for sale: at 7 he buys no more.
        rests("r10;r5;t8 10 0 6;t12 4 0 3;", 7, 0);
        // For sale for more than he buys for.
        rests("r10;r5;t8 10 0 3;t12 3 0 6;", 4, 0);
        // For sale for just what he buys for.
        rests("r10;r5;t8 10 0 5;t12 3 0 5;", 5, 4);
        // Two lack 4 each; the one who buys for 2 falls out at 3.
        rests("r10;r10;r5;t8 10 0 2;t8 10 0 8;t12 2 0 1;", 3, 4);
        // Of two sellers the second one is needed.
        rests("r10;r5;r5;t8 10 0 9;t12 4 0 2;t12 6 0 4;", 4, 4);
        // Six: 24 lacked by each of three, 24 spare of each of three.
        rests("r24;r24;r24;r0;r0;r0;t12 12 0 9;t12 12 0 9;t12 12 0 9;t0 0 0 1;t0 0 0 5;t0 0 0 9;", 9, 72);
        rests("r24;r24;r24;r0;r0;r0;t12 12 0 9;t12 12 0 9;t12 12 0 8;t0 0 0 1;t0 0 0 5;t0 0 0 9;", 9, 48);
    }

    private static void restAtTheEdges() {
        due.of(17, "REST: the least price p (0 .. 10) at which hours for sale (SPARE of those who ASK p at most) "
            + "are as many at least as those that are bought (lacking ones of those who ASK p at least); how many are bought then.");
        rests("", 0, 0);
        // Nobody lacks: it rests at 0, whatever is for sale.
        rests("r5;t12 0 0 9;", 0, 0);
        rests("r12;t12 0 0 9;", 0, 0);
        // Nothing is for sale, ever: one above what the last buyer pays, 10 at most.
        rests("r24;t12 12 0 9;", 10, 0);
        rests("r24;t12 12 0 8;", 9, 0);
        rests("r24;t12 12 0 1;", 2, 0);
        rests("r1;r24;t12 12 0 1;t12 12 0 9;", 10, 0);
        // As many at least: just as many, one more, one fewer.
        rests("r4;r8;t12 12 0 9;t12 0 0 1;", 1, 4);
        rests("r4;r7;t12 12 0 9;t12 0 0 1;", 1, 4);
        rests("r4;r9;t12 12 0 9;t12 0 0 1;", 10, 0);
        // A seller who asks 1 at price 0 does not sell.
        rests("r1;r0;t12 12 0 1;t0 0 0 1;", 1, 1);
        rests("r1;r0;t12 12 0 9;t0 0 0 9;", 9, 1);
        SilentRent x = Due.told("r24;r0;t12 12 0 9;t0 0 0 9;");
        due.is("who lives nowhere lacks nothing", x.rest(0), 0);
        due.is("who lives nowhere lacks nothing", x.rest(1), 0);
        x.moves(0, 0);
        due.is("who lives nowhere sells nothing", x.rest(0), 10);
        x.moves(1, 1);
        due.is("both live there", x.rest(0), 9);
        due.is("both live there", x.rest(1), 24);
    }

    /** More tenants than rooms: the last ones live in them. */
    private static void restOfTheLast() {
        due.of(17, "REST: the price (what = 0), how many are bought (1).");
        SilentRent x = Due.told("r10;r5;t0 0 0 1;t0 0 0 1;t8 10 0 6;t12 3 0 3;");
        x.moves(2, 0);
        due.is("spare(2)", x.spare(2), -4);
        due.is("nobody sells", x.rest(0), 7);
        x.moves(3, 1);
        due.is("spare(3)", x.spare(3), 4);
        due.is("rest(0)", x.rest(0), 3);
        due.is("rest(1)", x.rest(1), 4);
    }

    private static void restRefused() {
        due.of(17, "BAD.");
        for (int no : new int[] {Integer.MIN_VALUE, -9, -2, -1, 2, 3, 10, 256, Integer.MAX_VALUE}) {
            twins.refused("rest(" + no + ")", Stories.BUSY, x -> x.rest(no), BAD);
            twins.refused("rest(" + no + ")", Stories.NOTHING, x -> x.rest(no), BAD);
        }
    }

    /** A house in which each owes what is told, one evening long; the rents are met by nobody. */
    private static SilentRent owing(int... debts) {
        StringBuilder b = new StringBuilder();
        for (int t = 0; t < debts.length; t++) {
            b.append('r').append(12 + debts[t]).append(";t12 0 0 1;");
        }
        SilentRent x = Due.told(b.toString());
        for (int t = 0; t < debts.length; t++) {
            x.moves(t, t);
        }
        x.evening();
        for (int t = 0; t < debts.length; t++) {
            due.is("debt " + t, x.tenant(t, 7), debts[t]);
        }
        return x;
    }

    private static void shares() {
        due.of(18, "SHARE of a TENANT: all DEBTS by how many TENANTS there are (cut), and one more for the least numbers, till all are borne.");
        // All debts are the first one's: what is left over by 4 is 0, 1, 2, 3.
        for (int all = 8; all <= 12; all++) {
            SilentRent x = owing(all, 0, 0, 0);
            for (int t = 0; t < 4; t++) {
                int share = all / 4 + (t < all % 4 ? 1 : 0);
                due.is("share " + t + " of " + all, x.settled(t) + x.tenant(t, 7), share);
            }
        }
        // Fewer hours than tenants.
        SilentRent y = owing(0, 0, 0, 0, 0, 1);
        int[] share = {1, 0, 0, 0, 0, 0};
        for (int t = 0; t < 6; t++) {
            due.is("share " + t + " of 1", y.settled(t) + y.tenant(t, 7), share[t]);
        }
        SilentRent five = owing(0, 0, 0, 0, 0, 5);
        for (int t = 0; t < 6; t++) {
            due.is("share " + t + " of 5", five.settled(t) + five.tenant(t, 7), t < 5 ? 1 : 0);
        }
        due.is("the share of one alone", owing(7).settled(0), 0);
        SilentRent none = owing(0, 0);
        due.is("no debts", none.settled(0), 0);
        due.is("no debts", none.settled(1), 0);
        // Who lives nowhere bears his share too.
        SilentRent z = Due.told("r24;t12 0 0 1;t12 0 0 1;");
        z.moves(0, 0);
        z.evening();
        due.is("who lives nowhere", z.settled(1), 6);
        due.is("who lives there", z.settled(0), -6);
    }

    private static void payments() {
        due.of(18, "PAYMENTS.");
        due.is("nobody", new SilentRent().payments(), 0);
        due.is("no debts", owing(0, 0, 0, 0, 0, 0).payments(), 0);
        due.is("one alone", owing(5).payments(), 0);
        due.is("all alike", owing(5, 5, 5).payments(), 0);
        due.is("the one more is where it is due", owing(6, 5, 5).payments(), 0);
        due.is("the one more is not where it is due", owing(5, 6, 5).payments(), 1);
        due.of(18, "PAYMENTS: the fewest payments (one to another one, as much as may be) by which each DEBT comes to be the SHARE:");
        due.is("one pair", owing(4, 6).payments(), 1);
        due.is("two pairs", owing(2, 8, 6, 4).payments(), 2);
        due.is("three pairs", owing(2, 8, 6, 4, 1, 9).payments(), 3);
        due.is("from all to one", owing(12, 0, 0, 0, 0, 0).payments(), 5);
        due.is("hundreds at once", manyDays(), 1);
        // More tenants than rooms: 18 hours are the last one's, 3 are each one's share.
        SilentRent x = Due.told("r24;r13;t12 0 0 1;t12 0 0 1;t12 0 0 1;t12 0 0 1;t12 0 0 1;t6 0 0 1;");
        x.moves(5, 0);
        x.talks(5, 12, 5);
        due.is("the last one owes", x.evening(), 18);
        due.is("all others have a share", x.payments(), 5);
    }

    /** One of two who owes 24 hours a day for 99 days. */
    private static int manyDays() {
        SilentRent x = Due.told("r24;t12 0 0 1;t12 0 0 1;");
        x.moves(0, 0);
        for (int day = 0; day < 99; day++) {
            x.talks(0, 12, 0);
            x.evening();
        }
        due.is("all debts", x.now(1), 2376);
        due.is("settled(1)", x.settled(1), 1188);
        return x.payments();
    }

    private static void mostGroups() {
        due.of(18, "how many have a DEBT that is not their SHARE, less the most groups into which these can be parted, each with as much DEBT as SHARES together.");
        due.is("two pairs, two who owe their share", owing(2, 3, 7, 8, 5, 5).payments(), 2);
        due.is("one group of three", owing(0, 4, 11).payments(), 2);
        due.is("one group of four that has no pair", owing(0, 2, 12, 6, 5, 5).payments(), 3);
        due.is("a group of three, a pair", owing(0, 7, 8, 1, 9, 5).payments(), 3);
        due.is("two groups of three", owing(0, 7, 11, 4, 4, 10).payments(), 4);
        due.is("six in one group", owing(12, 0, 0, 0, 0, 0).payments(), 5);
        due.is("a pair, a group of four", owing(1, 2, 3, 9, 9, 6).payments(), 4);
        // One room alone: he who lives there owed all, the others lent.
        SilentRent x = Due.told("r24;" + "t12 0 0 1;".repeat(6));
        x.moves(0, 0);
        x.evening();
        x.talks(0, 6, 0);
        due.is("all debts", x.evening(), 30);
        int[] lent = {0, 8, 6, 4, 1, 9};
        for (int t = 1; t < 6; t++) {
            x.lends(t, 0, lent[t]);
        }
        due.is("three pairs, 2 and 8, 6 and 4, 1 and 9", x.payments(), 3);
        // Two who lack one hour each are no group, nor are two who have one too many.
        due.is("two give one each", owing(4, 4, 7).payments(), 2);
        due.is("two get one each", owing(6, 6, 3).payments(), 2);
        // Pairs that are not side by side.
        due.is("first and last", owing(0, 5, 5, 5, 5, 10).payments(), 1);
        due.is("crosswise", owing(1, 2, 3, 7, 8, 9).payments(), 3);
        SilentRent y = owing(4, 6);
        y.payments();
        due.is("nothing is changed", y.tenant(0, 7), 4);
    }

    private static void settled() {
        due.of(19, "SHARE of a TENANT less his DEBT.");
        SilentRent x = owing(9, 0, 2, 0);
        int[] want = {-6, 3, 1, 2};
        for (int t = 0; t < 4; t++) {
            due.is("settled(" + t + ")", x.settled(t), want[t]);
        }
        due.is("nothing is changed", x.tenant(0, 7), 9);
        SilentRent y = owing(4, 6);
        due.is("one below 0 is no refusal", y.settled(1), -1);
        due.is("one above 0", y.settled(0), 1);
        due.of(19, "NO: BAD.");
        for (int no : NO_TENANTS) {
            twins.refused("settled(" + no + ")", Stories.AT_ITS_LIMITS, z -> z.settled(no), NO);
        }
        twins.refused("settled(4) of four", Stories.BUSY, z -> z.settled(4), NO);
        twins.refused("settled(0) of none", Stories.NOTHING, z -> z.settled(0), NO);
    }
}

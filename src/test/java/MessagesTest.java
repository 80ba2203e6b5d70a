/** Promises 20 to 23: a message to all, where the landlady sits, the odds. */
public final class MessagesTest {
    private static final int BAD = SilentRent.BAD, NONE = SilentRent.NONE;
    private static final Due due = new Due("MessagesTest");
    private static final Twins twins = new Twins(due);
    private static final int[] NO_TENANTS = {Integer.MIN_VALUE, -1000000, -9, -2, -1, 6, 32, 64, 256, Integer.MAX_VALUE};

    public static void main(String[] args) {
        told();
        fewestTellers();
        rounds();
        toldRefused();
        watch();
        fewestChairs();
        watchRefused();
        odds();
        oddsOfSix();
        leastTerms();
        oddsRefused();
        due.end();
    }

    private static String crowd(int many) {
        return "t0 0 0 1;".repeat(many);
    }

    private static void tells(int many, String hearing, int t, int set, int rounds) {
        SilentRent x = Due.told(crowd(many) + hearing);
        due.is(many + " tenants, " + hearing + " told(" + t + ")", x.told(t), set);
        due.is(many + " tenants, " + hearing + " rounds(" + t + ")", x.rounds(t), rounds);
    }

    private static void told() {
        due.of(20, "TOLD, as bits; NONE.");
        tells(1, "", 0, 0, 0);
        tells(2, "", 0, NONE, NONE);
        tells(2, "h1 0;", 0, 1, 1);
        tells(2, "h0 1;", 1, 2, 1);
        tells(2, "h1 0;", 1, NONE, NONE);
        tells(6, "h0 5;h1 5;h2 5;h3 5;h4 5;", 5, 32, 1);
        // All but one.
        tells(6, "h0 5;h1 5;h2 5;h3 5;h5 4;", 5, NONE, NONE);
        tells(3, "h0 2;h1 2;", 2, 4, 1);
        // One who alone could tell the rest, but never knows.
        tells(3, "h1 2;h0 1;", 0, NONE, NONE);
    }

    private static void fewestTellers() {
        due.of(20, "TOLD from a TENANT: the fewest who tell (he begins; each one, as he knows, to all who hear him) so that all know, "
            + "of several sets the least bits: the set (0: he is the only one there is); NONE.");
        // A chain, from its end and from its midst.
        tells(4, "h1 0;h2 1;h3 2;", 0, 7, 3);
        tells(4, "h1 0;h2 1;h3 2;", 1, NONE, NONE);
        tells(4, "h1 0;h0 1;h2 1;h1 2;h3 2;h2 3;", 1, 6, 2);
        // 1 and 2 can both tell 3: the least bits.
        tells(4, "h1 0;h2 0;h3 1;h3 2;", 0, 3, 2);
        tells(4, "h1 3;h2 3;h0 1;h0 2;", 3, 10, 2);
        // 0 and 4 are fewer than 0, 1 and 2, whose bits are less.
        tells(6, "h1 0;h2 0;h4 0;h3 1;h5 2;h3 4;h5 4;", 0, 17, 2);
        // Fewest tellers are not soonest.
        tells(6, "h1 0;h2 0;h3 0;h4 1;h1 4;h2 4;h3 4;h5 4;h5 3;", 0, 11, 2);
        // A ring of six: all but the last tell.
        tells(6, "h1 0;h2 1;h3 2;h4 3;h5 4;h0 5;", 3, 59, 5);
        tells(6, "h1 0;h2 1;h3 2;h4 3;h5 4;h0 5;", 0, 31, 5);
        // Everybody hears everybody: he alone tells.
        StringBuilder all = new StringBuilder();
        for (int a = 0; a < 5; a++) {
            for (int b = 0; b < 5; b++) {
                all.append(a == b ? "" : "h" + a + " " + b + ";");
            }
        }
        for (int t = 0; t < 5; t++) {
            tells(5, all.toString(), t, 1 << t, 1);
        }
    }

    private static void rounds() {
        due.of(21, "ROUNDS: all who know tell at once, again and again: behind how many all know; NONE.");
        due.of(21, "ROUNDS; NONE.");
        tells(1, "", 0, 0, 0);
        tells(2, "h0 1;h1 0;", 0, 1, 1);
        // A chain of so many takes one round fewer than there are; one link is missing.
        StringBuilder chain = new StringBuilder();
        for (int many = 2; many <= 6; many++) {
            tells(many, chain.toString(), 0, NONE, NONE);
            chain.append("h").append(many - 1).append(" ").append(many - 2).append(";");
            tells(many, chain.toString(), 0, (1 << many - 1) - 1, many - 1);
        }
        // A shorter way and a longer one: the last who knows counts.
        tells(4, "h1 0;h3 0;h2 1;h3 2;", 0, 3, 2);
        tells(4, "h1 0;h2 1;h3 1;h3 0;", 0, 3, 2);
    }

    private static void toldRefused() {
        for (int no : NO_TENANTS) {
            due.of(20, "BAD.");
            twins.refused("told(" + no + ")", Stories.AT_ITS_LIMITS, x -> x.told(no), BAD);
            due.of(21, "BAD.");
            twins.refused("rounds(" + no + ")", Stories.AT_ITS_LIMITS, x -> x.rounds(no), BAD);
        }
        twins.refused("rounds(4) of four", Stories.BUSY, x -> x.rounds(4), BAD);
        twins.refused("rounds(0) of none", Stories.NOTHING, x -> x.rounds(0), BAD);
        due.of(20, "BAD.");
        twins.refused("told(4) of four", Stories.BUSY, x -> x.told(4), BAD);
        twins.refused("told(0) of none", Stories.NOTHING, x -> x.told(0), BAD);
    }

    private static void watch() {
        due.of(22, "WATCH, as bits; NONE.");
        SilentRent x = Due.told(crowd(4) + "c3;c12;c7;c8;c15;");
        due.is("nobody: no chair", x.watch(0), 0);
        due.is("watch(1)", x.watch(1), 1);
        due.is("watch(4)", x.watch(4), 2);
        due.is("watch(7)", x.watch(7), 4);
        due.is("all", x.watch(15), 16);
        SilentRent y = Due.told(crowd(4) + "c3;c6;c5;");
        due.is("two chairs", y.watch(7), 3);
        due.is("not seen from any", y.watch(8), NONE);
        due.is("one of them not seen from any", y.watch(15), NONE);
        due.is("no chairs", Due.told(crowd(1)).watch(1), NONE);
        due.is("no chairs, nobody", Due.told(crowd(1)).watch(0), 0);
        due.is("chairs, nobody there is", Due.told("c63;").watch(0), 0);
        due.is("a chair from which nobody is seen", Due.told(crowd(1) + "c62;").watch(1), NONE);
    }

    private static void fewestChairs() {
        due.of(22, "WATCH of some (bits): the fewest CHAIRS (of as few the least bits) from which the lips of all of them are seen: the set; NONE.");
        SilentRent x = Due.told(crowd(6) + "c1;c2;c4;c8;c48;");
        due.is("all five chairs", x.watch(63), 31);
        due.is("four chairs", x.watch(15), 15);
        due.is("the last chair", x.watch(32), 16);
        due.is("the first and the last", x.watch(33), 17);
        SilentRent y = Due.told(crowd(6) + "c7;c56;c63;c21;c42;");
        due.is("one ahead of two of least bits", y.watch(63), 4);
        due.is("of as few the least bits", y.watch(1), 1);
        due.is("of as few the least bits", y.watch(5), 1);
        due.is("of as few the least bits", y.watch(8), 2);
        due.is("seen from two, both see more", y.watch(21), 4);
        SilentRent z = Due.told(crowd(6) + "c21;c42;c7;c56;");
        due.is("two pairs would do: the least bits", z.watch(63), 3);
        due.is("of as few the least bits", z.watch(9), 3);
        SilentRent w = Due.told(crowd(4) + "c5;c5;c10;c10;");
        due.is("chairs alike: the least bits", w.watch(15), 5);
    }

    private static void watchRefused() {
        due.of(22, "BAD.");
        for (int no : new int[] {Integer.MIN_VALUE, Integer.MIN_VALUE + 1, -64, -9, -1, 16, 17, 32, 64, 256, 65536 + 1, Integer.MAX_VALUE}) {
            twins.refused("of four, watch(" + no + ")", Stories.BUSY, x -> x.watch(no), BAD);
        }
        for (int no : new int[] {Integer.MIN_VALUE, -1, 64, 65, 128, Integer.MAX_VALUE}) {
            twins.refused("of six, watch(" + no + ")", Stories.AT_ITS_LIMITS, x -> x.watch(no), BAD);
        }
        for (int many = 1; many <= 6; many++) {
            String text = crowd(many) + "c63;";
            due.is("of " + many + " all", Due.told(text).watch((1 << many) - 1), 1);
            due.is("of " + many + " one who is not there", Due.told(text).watch(1 << many), BAD);
        }
        twins.refused("of none, watch(1)", Stories.NOTHING, x -> x.watch(1), BAD);
    }

    private static void odds(SilentRent x, int in10, long upper, long lower) {
        due.is("odds(" + in10 + ", 0)", x.odds(in10, 0), upper);
        due.is("odds(" + in10 + ", 1)", x.odds(in10, 1), lower);
    }

    private static void odds() {
        due.of(23, "ODDS (x 0 .. 10): each TENANT who LIVES in a ROOM says 2 hours more than he MUST by x in 10: "
            + "that PRICES of all are met (FREE less what is said): a fraction.");
        // Spare 0, 1, 2, -1 and 3 in their rooms.
        SilentRent x = Due.told("r10;r10;r10;r10;r10;t12 2 0 1;t12 1 0 1;t12 0 0 1;t12 3 0 1;t11 0 0 1;");
        odds(x, 3, 1, 1);
        odds(x, 10, 1, 1);
        x.moves(4, 4);
        x.moves(2, 2);
        // 2 hours more are met by these.
        odds(x, 0, 1, 1);
        odds(x, 3, 1, 1);
        odds(x, 10, 1, 1);
        x.moves(1, 1);
        // 1 hour is too few.
        odds(x, 0, 1, 1);
        odds(x, 1, 9, 10);
        odds(x, 9, 1, 10);
        odds(x, 10, 0, 1);
        x.moves(1, -1);
        x.moves(0, 0);
        odds(x, 0, 1, 1);
        odds(x, 3, 7, 10);
        odds(x, 10, 0, 1);
        x.moves(1, 1);
        odds(x, 3, 49, 100);
        x.talks(0, 5, 0);
        odds(x, 3, 49, 100);
        x.moves(3, 3);
        // One who does not meet his whatever he says.
        odds(x, 0, 0, 1);
        odds(x, 3, 0, 1);
        odds(x, 10, 0, 1);
        // More tenants than rooms: the last one lives in the only one.
        SilentRent last = Due.told("r12;t12 0 0 1;t12 0 0 1;t12 0 0 1;");
        last.moves(2, 0);
        odds(last, 3, 7, 10);
        // Who says more than his FREE hours meets no price, not even 0.
        SilentRent y = Due.told("r0;t12 12 0 1;");
        y.moves(0, 0);
        odds(y, 0, 1, 1);
        odds(y, 4, 3, 5);
        odds(y, 10, 0, 1);
        SilentRent z = Due.told("r0;t12 10 0 1;");
        z.moves(0, 0);
        odds(z, 10, 1, 1);
    }

    private static void oddsOfSix() {
        due.of(23, "each TENANT who LIVES in a ROOM says 2 hours more than he MUST by x in 10:");
        long[] upper = {1, 531441, 4096, 117649, 729, 1, 64, 729, 1, 1, 0};
        long[] lower = {1, 1000000, 15625, 1000000, 15625, 64, 15625, 1000000, 15625, 1000000, 1};
        SilentRent x = Due.told("r12;".repeat(6) + "t12 0 0 1;".repeat(6));
        for (int t = 0; t < 6; t++) {
            x.moves(t, t);
        }
        for (int in10 = 0; in10 <= 10; in10++) {
            odds(x, in10, upper[in10], lower[in10]);
        }
    }

    private static void leastTerms() {
        due.of(23, "ODDS: upper (what = 0), lower number (1), in least terms.");
        SilentRent x = Due.told("r12;r12;t12 0 0 1;t12 0 0 1;");
        x.moves(0, 0);
        long[] upper = {1, 9, 4, 7, 3, 1, 2, 3, 1, 1, 0};
        long[] lower = {1, 10, 5, 10, 5, 2, 5, 10, 5, 10, 1};
        for (int in10 = 0; in10 <= 10; in10++) {
            odds(x, in10, upper[in10], lower[in10]);
        }
        x.moves(1, 1);
        for (int in10 = 0; in10 <= 10; in10++) {
            odds(x, in10, upper[in10] * upper[in10], lower[in10] * lower[in10]);
        }
        odds(new SilentRent(), 0, 1, 1);
        odds(new SilentRent(), 10, 1, 1);
    }

    private static void oddsRefused() {
        due.of(23, "BAD.");
        for (int no : new int[] {Integer.MIN_VALUE, -10, -9, -1, 11, 12, 100, 256, 65536 + 5, Integer.MAX_VALUE}) {
            twins.refused("odds(" + no + ", 0)", Stories.BUSY, x -> x.odds(no, 0), BAD);
            twins.refused("odds(" + no + ", 1)", Stories.NOTHING, x -> x.odds(no, 1), BAD);
            twins.refused("odds(5, " + no + ")", Stories.BUSY, x -> x.odds(5, no), BAD);
        }
        twins.refused("odds(5, 2)", Stories.BUSY, x -> x.odds(5, 2), BAD);
        twins.refused("odds(5, 2)", Stories.NOTHING, x -> x.odds(5, 2), BAD);
    }
}

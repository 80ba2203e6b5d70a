/** Promises 20 to 23: a message to all, where the landlady sits, the odds. */
public final class MessagesTest {
    private static final Due due = new Due("MessagesTest");
    private static final int BAD = SilentRent.BAD, NONE = SilentRent.NONE;

    public static void main(String[] args) {
        told();
        watch();
        odds();
        oddsRefused();
        due.end();
    }

    private static String crowd(int many) {
        StringBuilder b = new StringBuilder();
        for (int t = 0; t < many; t++) {
            b.append("t0 0 0 1;");
        }
        return b.toString();
    }

    private static void tells(int many, String hearing, int t, int set, int rounds) {
        SilentRent x = Due.told(crowd(many) + hearing);
        due.is(hearing + " told(" + t + ")", x.told(t), set);
        due.is(hearing + " rounds(" + t + ")", x.rounds(t), rounds);
    }

    private static void told() {
        tells(1, "", 0, 0, 0);
        tells(2, "", 0, NONE, NONE);
        tells(2, "h1 0;", 0, 1, 1);
        tells(2, "h1 0;", 1, NONE, NONE);
        tells(3, "h0 2;h1 2;", 2, 4, 1);
        // A chain, from its end and from its midst.
        tells(4, "h1 0;h2 1;h3 2;", 0, 7, 3);
        tells(4, "h1 0;h2 1;h3 2;", 1, NONE, NONE);
        tells(4, "h1 0;h0 1;h2 1;h1 2;h3 2;h2 3;", 1, 6, 2);
        // 1 and 2 can both tell 3: the least bits.
        tells(4, "h1 0;h2 0;h3 1;h3 2;", 0, 3, 2);
        // Fewest tellers are not soonest: 4 tells all, but is told late.
        tells(6, "h1 0;h2 0;h3 0;h4 1;h1 4;h2 4;h3 4;h5 4;h5 3;", 0, 11, 2);
        // One who alone could tell the rest, but never knows.
        tells(3, "h1 2;h0 1;", 0, NONE, NONE);
        // A ring of six.
        tells(6, "h1 0;h2 1;h3 2;h4 3;h5 4;h0 5;", 3, 59, 5);
        due.is("told(-1)", Due.told(crowd(2)).told(-1), BAD);
        due.is("told(2)", Due.told(crowd(2)).told(2), BAD);
        due.is("rounds(-1)", Due.told(crowd(2)).rounds(-1), BAD);
        due.is("rounds(2)", Due.told(crowd(2)).rounds(2), BAD);
        due.is("nobody", new SilentRent().told(0), BAD);
    }

    private static void watch() {
        SilentRent x = Due.told(crowd(4) + "c3;c12;c7;c8;c15;");
        due.is("nobody", x.watch(0), 0);
        due.is("watch(1): the least bits", x.watch(1), 1);
        due.is("watch(4)", x.watch(4), 2);
        due.is("watch(7)", x.watch(7), 4);
        due.is("watch(15): the fewest", x.watch(15), 16);
        due.is("watch(16): no such tenant", x.watch(16), BAD);
        due.is("watch(-1)", x.watch(-1), BAD);
        due.is("watch(64)", x.watch(64), BAD);
        SilentRent y = Due.told(crowd(4) + "c3;c6;c5;");
        due.is("two chairs", y.watch(7), 3);
        due.is("not seen from any", y.watch(8), NONE);
        due.is("not seen from any", y.watch(15), NONE);
        SilentRent z = Due.told(crowd(6) + "c1;c2;c4;c8;c48;");
        due.is("five chairs", z.watch(63), 31);
        due.is("four chairs", z.watch(15), 15);
        due.is("no chairs", Due.told(crowd(1)).watch(1), NONE);
        due.is("no chairs, nobody", Due.told(crowd(1)).watch(0), 0);
    }

    private static void odds(SilentRent x, int in10, long upper, long lower) {
        due.is("odds(" + in10 + ", 0)", x.odds(in10, 0), upper);
        due.is("odds(" + in10 + ", 1)", x.odds(in10, 1), lower);
    }

    private static void odds() {
        // Spare 0, 1, 2 and -1 in their rooms.
        SilentRent x = Due.told("r10;r10;r10;r10;t12 2 0 1;t12 1 0 1;t12 0 0 1;t12 3 0 1;");
        odds(x, 3, 1, 1);
        x.moves(2, 2);
        odds(x, 10, 1, 1);
        x.moves(0, 0);
        odds(x, 0, 1, 1);
        odds(x, 3, 7, 10);
        odds(x, 5, 1, 2);
        odds(x, 8, 1, 5);
        odds(x, 10, 0, 1);
        x.moves(1, 1);
        odds(x, 3, 49, 100);
        odds(x, 4, 9, 25);
        odds(x, 10, 0, 1);
        x.talks(0, 5, 0);
        odds(x, 3, 49, 100);
        x.moves(3, 3);
        odds(x, 3, 0, 1);
        odds(x, 0, 0, 1);
        odds(x, 10, 0, 1);
    }

    private static void oddsRefused() {
        SilentRent x = new SilentRent();
        odds(x, 10, 1, 1);
        due.is("odds(-1, 0)", x.odds(-1, 0), BAD);
        due.is("odds(11, 0)", x.odds(11, 0), BAD);
        due.is("odds(0, 2)", x.odds(0, 2), BAD);
        due.is("odds(0, -1)", x.odds(0, -1), BAD);
    }
}

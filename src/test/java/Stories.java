/** Objects as some tests find them. */
final class Stories {
    static final String FULL_HOUSE = "r12;r14;r5;r20;r0;r24;t8 2 3 4;t6 8 5 2;t10 6 9 9;t8 0 0 1;t12 12 5 5;t0 0 9 9;"
        + "h1 0;h2 1;h3 2;h4 3;h5 4;h0 5;h0 1;c3;c12;c48;c7;c63;";

    /** Nobody, no rooms. */
    static final Twins.Story NOTHING = x -> { };

    /** A house as told; no day has gone by. */
    static final Twins.Story TOLD = x -> {
        Due.typed(x, "r16;r10;r5;r12;t8 2 3 4;t6 8 5 2;t10 6 9 9;t8 0 0 1;h0 1;h1 0;h2 1;h3 2;c3;c12;c7;");
        x.house();
    };

    /** Some of everything, in the midst of a day; ten may be undone and two are lost. */
    static final Twins.Story BUSY = x -> {
        TOLD.tell(x);
        x.moves(0, 0);
        x.moves(1, 1);
        x.talks(0, 5, 0);
        x.talks(1, 9, 1);
        x.evening();
        x.keep(0);
        x.moves(2, 3);
        x.talks(2, 4, 2);
        x.evening();
        x.lends(3, 0, 3);
        x.talks(3, 7, 0);
        x.moves(1, 2);
        x.keep(1);
        x.moves(1, 1);
        x.talks(2, 3, 2);
        x.book(0, 2);
        x.book(1, 0);
        x.mark(3, 0);
        x.mark(4, 2);
        Due.typed(x, "r9;t1 1 1 1;c");
    };

    /** Whatever has a limit is at it, but for the debts: rooms, tenants, chairs, days, lines, what may be undone. */
    static final Twins.Story AT_ITS_LIMITS = x -> {
        Due.typed(x, FULL_HOUSE);
        x.house();
        for (int t = 0; t < 6; t++) {
            x.moves(t, t);
        }
        for (int day = 0; day < 99; day++) {
            x.evening();
        }
        for (int line = 0; line < 6; line++) {
            x.book(line, 0);
        }
        x.keep(0);
        x.keep(1);
    };

    /** A text as long as can be; nobody, no rooms yet. */
    static final Twins.Story FULL_TEXT = x -> {
        String head = "r9;t1 1 1 1;c1;";
        Due.typed(x, head + " ".repeat(200 - head.length()));
    };

    /** Six who each have something of their own, in the midst of day 1: where they live, what they talked, pay and owe. */
    static final Twins.Story SIX = x -> {
        Due.typed(x, "r24;r24;r24;r24;r24;r24;t12 0 4 1;t12 0 5 1;t12 0 6 1;t12 0 7 1;t12 0 8 1;t12 0 9 1;");
        x.house();
        for (int t = 0; t < 6; t++) {
            x.moves(t, 5 - t);
            x.talks(t, t + 1, t);
        }
        x.evening();
        for (int t = 0; t < 6; t++) {
            x.talks(t, t + 1, t < 5 ? t + 1 : t);
        }
    };

    private static final int[][] OF_SIX = {{5, 4, 3, 2, 1, 0}, {1, 2, 3, 4, 5, 6}, {0, 1, 2, 3, 4, 11}, {13, 14, 15, 16, 17, 18}};

    /** Whether all is as the story of the six left it. */
    static void asSix(Due due, String what, SilentRent x) {
        for (int t = 0; t < 6; t++) {
            for (int i = 0; i < OF_SIX.length; i++) {
                due.is(what + ", tenant(" + t + ", " + (4 + i) + ")", x.tenant(t, 4 + i), OF_SIX[i][t]);
            }
        }
        due.is(what + ", the day", x.now(0), 1);
    }

    private Stories() {
    }
}

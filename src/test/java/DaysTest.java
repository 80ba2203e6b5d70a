/** Promises 8 to 13: moves, talks, evenings, loans, what is undone, how it stands. */
public final class DaysTest {
    private static final int BAD = SilentRent.BAD, STATE = SilentRent.STATE, NONE = SilentRent.NONE;
    private static final Due due = new Due("DaysTest");
    private static final Twins twins = new Twins(due);
    private static final int[] NO_NUMBERS = {Integer.MIN_VALUE, -1000000, -9, -2, -1, 4, 6, 32, 64, 256, Integer.MAX_VALUE};

    public static void main(String[] args) {
        moves();
        oneAloneInEach();
        movesRefused();
        talks();
        talksAllTogether();
        whoPays();
        talksRefused();
        evenings();
        debtIsNotBelow0();
        eveningEndsTheDay();
        lastDay();
        loans();
        loansRefused();
        mostDebt();
        mostDebtByAnEvening();
        undone();
        eachKindIsUndone();
        allSixAreAsAhead();
        tenAreKnown();
        refusedIsNotKnown();
        now();
        nowRefused();
        due.end();
    }

    private static void moves() {
        due.of(8, "A TENANT MOVES into a ROOM (r = -1: out): his ROOM till then (NONE).");
        SilentRent x = Due.told("r1;r2;t0 0 0 1;t0 0 0 1;");
        due.is("into the last room", x.moves(0, 1), NONE);
        due.is("from there into the first", x.moves(0, 0), 1);
        due.is("the last one is empty then", x.moves(1, 1), NONE);
        due.is("out of the first", x.moves(0, -1), 0);
        due.is("he lives nowhere", x.tenant(0, 4), NONE);
        due.is("the other one goes on living there", x.tenant(1, 4), 1);
        due.is("out of the last", x.moves(1, -1), 1);
        due.is("in again", x.moves(1, 0), NONE);
        SilentRent y = Due.told(Stories.FULL_HOUSE);
        for (int t = 0; t < 6; t++) {
            due.is("six tenants, six rooms", y.moves(t, 5 - t), NONE);
        }
        due.is("the sixth moves out", y.moves(5, -1), 0);
        due.is("the first takes his", y.moves(0, 0), 5);
        SilentRent z = Due.told("r24;t12 12 0 1;");
        due.is("he does not meet it, and may", z.moves(0, 0), NONE);
    }

    private static void oneAloneInEach() {
        due.of(8, "A TENANT LIVES in a ROOM (one alone in each) or nowhere (at first).");
        SilentRent x = Due.told("r1;r2;t0 0 0 1;t0 0 0 1;t0 0 0 1;");
        for (int t = 0; t < 3; t++) {
            due.is("nowhere at first", x.tenant(t, 4), NONE);
        }
        x.moves(0, 0);
        x.moves(1, 1);
        for (int r = 0; r < 2; r++) {
            due.is("no room is left", x.moves(2, r), STATE);
        }
        due.is("nobody is driven out", x.room(0, 1), 0);
        due.is("nobody is driven out", x.room(1, 1), 1);
        x.moves(0, -1);
        due.is("any number may live nowhere", x.moves(1, -1), 1);
        due.is("who lives", x.now(2), 0);
    }

    private static void movesRefused() {
        due.of(8, "BAD; STATE: he is there, or another one is.");
        twins.refused("he is there", Stories.BUSY, x -> x.moves(0, 0), STATE);
        twins.refused("another one is there", Stories.BUSY, x -> x.moves(3, 0), STATE);
        twins.refused("another one, he lives elsewhere", Stories.BUSY, x -> x.moves(1, 3), STATE);
        twins.refused("he is out", Stories.BUSY, x -> x.moves(3, -1), STATE);
        twins.refused("the last in the last", Stories.AT_ITS_LIMITS, x -> x.moves(5, 5), STATE);
        twins.refused("all rooms are taken", Stories.AT_ITS_LIMITS, x -> x.moves(5, 0), STATE);
        twins.refused("no such tenant nor room", Stories.NOTHING, x -> x.moves(0, 0), BAD);
        twins.refused("no such tenant", Stories.NOTHING, x -> x.moves(0, -1), BAD);
        twins.refused("there are no rooms", x -> {
            Due.typed(x, "t0 0 0 1;");
            x.house();
        }, x -> x.moves(0, 0), BAD);
        for (int no : NO_NUMBERS) {
            twins.refused("moves(" + no + ", 2)", Stories.BUSY, x -> x.moves(no, 2), BAD);
            twins.refused("BAD ahead of STATE, moves(" + no + ", 0)", Stories.BUSY, x -> x.moves(no, 0), BAD);
            twins.refused("BAD ahead of STATE, moves(" + no + ", -1)", Stories.BUSY, x -> x.moves(no, -1), BAD);
            if (no != -1) {
                twins.refused("moves(0, " + no + ")", Stories.BUSY, x -> x.moves(0, no), BAD);
                twins.refused("who lives nowhere, moves(3, " + no + ")", Stories.BUSY, x -> x.moves(3, no), BAD);
            }
        }
        due.is("out of nowhere", Due.told("t0 0 0 1;").moves(0, -1), STATE);
    }

    private static void talks() {
        due.of(9, "TALKS: how much he TALKED.");
        SilentRent x = Due.told("t4 0 3 1;t12 0 5 1;");
        due.is("5 hours", x.talks(0, 5, 0), 5);
        due.is("6 more", x.talks(0, 6, 1), 11);
        due.is("talked", x.tenant(0, 5), 11);
        due.is("who pays has not talked", x.tenant(1, 5), 0);
        due.is("who pays talks", x.talks(1, 1, 1), 1);
        due.of(9, "TODAY he TALKED so many hours, PAYS for so many (0 at first).");
        due.is("pays", x.tenant(0, 6), 5);
        due.is("pays", x.tenant(1, 6), 7);
        SilentRent y = Due.told("t4 0 3 1;");
        due.is("talked at first", y.tenant(0, 5), 0);
        due.is("pays at first", y.tenant(0, 6), 0);
    }

    private static void talksAllTogether() {
        due.of(9, "TALKS: a TENANT talks h hours (1 .. 24; no more than 24 less SLEEP less what he TALKED, all together),");
        SilentRent x = Due.told("t0 12 0 1;t12 0 0 1;t1 0 0 1;t0 0 0 1;t12 0 0 1;t11 0 0 1;");
        due.is("24 hours at once", x.talks(0, 24, 0), 24);
        due.is("none is left", x.talks(0, 1, 0), STATE);
        due.is("a sleeper: 13 hours", x.talks(1, 13, 1), STATE);
        due.is("a sleeper: 12 hours", x.talks(1, 12, 1), 12);
        due.is("a sleeper: one more", x.talks(1, 1, 1), STATE);
        due.is("who sleeps one hour: 24", x.talks(2, 24, 2), STATE);
        due.is("who sleeps one hour: 23", x.talks(2, 23, 2), 23);
        for (int h = 1; h <= 24; h++) {
            due.is("hour by hour", x.talks(3, 1, 3), h);
        }
        due.is("the 25th", x.talks(3, 1, 3), STATE);
        due.is("11 of 12", x.talks(4, 11, 4), 11);
        due.is("two more are too much", x.talks(4, 2, 4), STATE);
        due.is("one more is not", x.talks(4, 1, 4), 12);
        due.is("6 of 13", x.talks(5, 6, 5), 6);
        due.is("8 more are too much", x.talks(5, 8, 5), STATE);
        due.is("7 more are not", x.talks(5, 7, 5), 13);
        x.evening();
        due.is("all of it again the next day", x.talks(0, 24, 0), 24);
    }

    private static void whoPays() {
        due.of(9, "who made him speak PAYS for them (himself, or another one who has more WITS).");
        SilentRent x = Due.told("t0 0 4 1;t0 0 5 1;t0 0 4 1;t0 0 3 1;t0 0 9 1;t0 0 0 1;");
        due.is("himself", x.talks(0, 1, 0), 1);
        due.is("one more of wits", x.talks(0, 2, 1), 3);
        due.is("as many wits", x.talks(0, 1, 2), STATE);
        due.is("one less of wits", x.talks(0, 1, 3), STATE);
        due.is("the most wits", x.talks(0, 4, 4), 7);
        due.is("the least wits", x.talks(0, 1, 5), STATE);
        due.is("the least by the most", x.talks(5, 1, 4), 1);
        due.is("the most by the least", x.talks(4, 1, 5), STATE);
        due.is("the most himself", x.talks(4, 1, 4), 1);
        due.is("the least himself", x.talks(5, 1, 5), 2);
        int[] pays = {1, 2, 0, 0, 6, 1};
        for (int t = 0; t < 6; t++) {
            due.is("pays " + t, x.tenant(t, 6), pays[t]);
        }
        SilentRent y = Due.told("t0 0 0 1;t12 0 1 1;");
        due.is("who pays needs no hours of his own", y.talks(0, 24, 1), 24);
        due.is("pays more than he has", y.tenant(1, 6), 24);
        due.is("and talks", y.talks(1, 12, 1), 12);
    }

    private static void talksRefused() {
        due.of(9, "BAD; STATE: too much, or who made him speak has no more WITS.");
        // In the busy house: 3 of 14 hours talked by the third one, 7 of 16 by the fourth.
        twins.refused("12 of the 11 hours left", Stories.BUSY, x -> x.talks(2, 12, 2), STATE);
        twins.refused("no more wits", Stories.BUSY, x -> x.talks(1, 1, 0), STATE);
        twins.refused("too much, and no more wits", Stories.BUSY, x -> x.talks(2, 24, 0), STATE);
        for (int h : new int[] {Integer.MIN_VALUE, -2147483641, -256, -24, -1, 0, 25, 99, 256 + 1, 65536 + 1, Integer.MAX_VALUE}) {
            twins.refused("talks(0, " + h + ", 0)", Stories.BUSY, x -> x.talks(0, h, 0), BAD);
            twins.refused("BAD ahead of STATE, talks(2, " + h + ", 0)", Stories.BUSY, x -> x.talks(2, h, 0), BAD);
        }
        for (int no : NO_NUMBERS) {
            twins.refused("talks(" + no + ", 1, 0)", Stories.BUSY, x -> x.talks(no, 1, 0), BAD);
            twins.refused("talks(0, 1, " + no + ")", Stories.BUSY, x -> x.talks(0, 1, no), BAD);
            twins.refused("talks(" + no + ", 1, " + no + ")", Stories.BUSY, x -> x.talks(no, 1, no), BAD);
            twins.refused("BAD ahead of STATE, talks(2, 24, " + no + ")", Stories.BUSY, x -> x.talks(2, 24, no), BAD);
        }
        twins.refused("nobody", Stories.NOTHING, x -> x.talks(0, 1, 0), BAD);
    }

    private static void evenings() {
        due.of(10, "EVENING: each who LIVES in a ROOM: what SILENT lacks of PRICE is more DEBT; what it is more than PRICE is less DEBT (0 at least).");
        SilentRent x = Due.told("r20;r5;r10;t4 0 3 1;t12 0 5 1;t0 0 3 1;");
        x.moves(0, 0);
        x.moves(1, 1);
        x.talks(0, 7, 0);
        x.talks(1, 9, 1);
        x.talks(2, 24, 2);
        due.of(10, "EVENING: all DEBTS.");
        due.is("7 and 2 hours are lacked", x.evening(), 9);
        due.is("debt 0", x.tenant(0, 7), 7);
        due.is("debt 1", x.tenant(1, 7), 2);
        due.is("who lives nowhere owes nothing", x.tenant(2, 7), 0);
        due.is("as many as the price: no more, no less", x.evening(), 7);
        due.is("debt 0", x.tenant(0, 7), 7);
        due.is("debt 1, 7 hours less than 2", x.tenant(1, 7), 0);
        x.moves(0, 2);
        x.talks(0, 8, 1);
        x.talks(0, 7, 0);
        due.is("who made him speak pays", x.evening(), 5);
        due.is("debt 0", x.tenant(0, 7), 4);
        due.is("debt 1", x.tenant(1, 7), 1);
        x.moves(0, -1);
        due.is("who lives nowhere works off nothing", x.evening(), 4);
        due.is("debt 0", x.tenant(0, 7), 4);
        due.is("nobody", new SilentRent().evening(), 0);
        SilentRent y = Due.told("r24;t0 0 0 1;t0 0 9 1;");
        y.moves(0, 0);
        due.is("24 of 24 hours", y.evening(), 0);
        y.talks(0, 1, 0);
        due.is("23 of 24 hours", y.evening(), 1);
        y.talks(0, 24, 0);
        due.is("none of 24 hours", y.evening(), 25);
        y.moves(0, -1);
        y.moves(1, 0);
        y.talks(0, 24, 1);
        y.talks(1, 24, 1);
        due.is("48 hours paid lack no more than the price", y.evening(), 49);
        due.is("debt 1", y.tenant(1, 7), 24);
    }

    private static void debtIsNotBelow0() {
        due.of(10, "(DEBT 0 at first, 9999 at most.)");
        SilentRent x = Due.told("r12;r10;r11;t12 0 0 1;");
        due.is("debt at first", x.tenant(0, 7), 0);
        due.of(10, "what it is more than PRICE is less DEBT (0 at least).");
        x.moves(0, 1);
        due.is("debt 0, 2 hours more than the price", x.evening(), 0);
        x.moves(0, 0);
        x.talks(0, 3, 0);
        due.is("3 lacked", x.evening(), 3);
        x.moves(0, 1);
        due.is("debt 3 less 2", x.evening(), 1);
        due.is("debt 1 less 2", x.evening(), 0);
        x.moves(0, 0);
        x.talks(0, 1, 0);
        due.is("1 lacked", x.evening(), 1);
        x.moves(0, 2);
        due.is("debt 1 less 1", x.evening(), 0);
        due.is("debt 0 less 1", x.evening(), 0);
        due.is("tenant(0, 7)", x.tenant(0, 7), 0);
    }

    private static void eveningEndsTheDay() {
        due.of(10, "Then TALKED, PAYS are 0, the DAY is one more (0 at first, 99 at most).");
        SilentRent x = Due.told("r24;t0 0 3 1;t0 0 5 1;");
        x.moves(0, 0);
        x.talks(0, 7, 0);
        x.talks(1, 24, 1);
        due.is("day at first", x.now(0), 0);
        due.is("7 lacked", x.evening(), 7);
        due.is("the day", x.now(0), 1);
        for (int t = 0; t < 2; t++) {
            due.is("talked " + t + ", wherever he lives", x.tenant(t, 5), 0);
            due.is("pays " + t + ", wherever he lives", x.tenant(t, 6), 0);
        }
        due.is("who lives where stays", x.tenant(0, 4), 0);
        due.is("the evening counts what was talked that day alone", x.evening(), 7);
        due.is("the day", x.now(0), 2);
        SilentRent y = new SilentRent();
        for (int day = 1; day <= 99; day++) {
            due.is("nobody's debts", y.evening(), 0);
            due.is("the day", y.now(0), day);
        }
        due.is("day 99 is the last, for nobody too", y.evening(), STATE);
    }

    private static void lastDay() {
        due.of(10, "STATE: it is DAY 99.");
        SilentRent x = Due.told("r24;t12 0 0 1;");
        x.moves(0, 0);
        for (int day = 1; day <= 98; day++) {
            due.is("evening " + day, x.evening(), 12 * day);
        }
        due.is("day 98", x.now(0), 98);
        due.is("evening 99", x.evening(), 1188);
        due.is("day 99", x.now(0), 99);
        due.is("evening 100", x.evening(), STATE);
        due.is("day 99", x.now(0), 99);
        due.is("debts", x.now(1), 1188);
        due.is("back to day 98", x.undo(), 9);
        due.is("day 99 again", x.evening(), 1188);
        twins.refused("day 99, a day that is begun", y -> {
            Stories.AT_ITS_LIMITS.tell(y);
            y.talks(5, 9, 5);
            y.moves(0, -1);
        }, SilentRent::evening, STATE);
        SilentRent z = new SilentRent();
        Stories.AT_ITS_LIMITS.tell(z);
        due.is("on day 99 one may move", z.moves(0, -1), 0);
        due.is("on day 99 one may talk", z.talks(5, 24, 5), 24);
        due.is("on day 99 one may keep", z.keep(0), 99);
        due.is("read anew it is day 0", z.house(), 0);
        due.is("an evening", z.evening(), 0);
    }

    private static void loans() {
        due.of(11, "LENDS: a TENANT takes h (1 .. 99) of another one's DEBT on himself (that has so much).");
        SilentRent x = Due.told("r24;r20;t12 0 0 1;t12 0 0 1;t0 0 0 1;");
        x.moves(0, 0);
        x.moves(1, 1);
        for (int day = 0; day < 9; day++) {
            x.evening();
        }
        due.is("debts 108 and 72", x.now(1), 180);
        due.of(11, "LENDS: DEBT of the lender.");
        due.is("1 hour", x.lends(2, 0, 1), 1);
        due.is("99 hours", x.lends(2, 0, 99), 100);
        due.is("debt 0", x.tenant(0, 7), 8);
        due.is("all that he has", x.lends(1, 0, 8), 80);
        due.is("debt 0", x.tenant(0, 7), 0);
        due.is("to him who has none", x.lends(0, 2, 99), 99);
        due.is("debt 2", x.tenant(2, 7), 1);
        due.is("all debts are as they were", x.now(1), 180);
    }

    private static void loansRefused() {
        due.of(11, "BAD (unlike ones); STATE: the other one has not so much, the lender would have above 9999.");
        SilentRent x = new SilentRent();
        Stories.BUSY.tell(x);
        int[] debts = {2, 0, 2, 3};
        for (int t = 0; t < 4; t++) {
            due.is("the busy house, debt " + t, x.tenant(t, 7), debts[t]);
            int like = t;
            twins.refused("like ones, " + t, Stories.BUSY, y -> y.lends(like, like, 1), BAD);
            twins.refused("like ones, too much, " + t, Stories.BUSY, y -> y.lends(like, like, 99), BAD);
        }
        twins.refused("one more than he has", Stories.BUSY, y -> y.lends(0, 3, 4), STATE);
        twins.refused("he has none", Stories.BUSY, y -> y.lends(0, 1, 1), STATE);
        twins.refused("he has not 99", Stories.BUSY, y -> y.lends(0, 3, 99), STATE);
        due.is("just what he has", x.lends(0, 3, 3), 5);
        for (int h : new int[] {Integer.MIN_VALUE, -99, -1, 0, 100, 256 + 1, 65536 + 1, Integer.MAX_VALUE}) {
            twins.refused("lends(0, 3, " + h + ")", Stories.BUSY, y -> y.lends(0, 3, h), BAD);
            twins.refused("BAD ahead of STATE, lends(0, 1, " + h + ")", Stories.BUSY, y -> y.lends(0, 1, h), BAD);
        }
        for (int no : NO_NUMBERS) {
            twins.refused("lends(" + no + ", 3, 1)", Stories.BUSY, y -> y.lends(no, 3, 1), BAD);
            twins.refused("lends(0, " + no + ", 1)", Stories.BUSY, y -> y.lends(0, no, 1), BAD);
            twins.refused("BAD ahead of STATE, lends(" + no + ", 1, 99)", Stories.BUSY, y -> y.lends(no, 1, 99), BAD);
        }
        twins.refused("nobody", Stories.NOTHING, y -> y.lends(0, 1, 1), BAD);
    }

    /** As much DEBT as a loan may bring, in 508 of an object's 512 calls: 85 of them for the house. */
    private static void mostDebt() {
        due.of(11, "the lender would have above 9999.");
        SilentRent x = Due.told("r24;".repeat(6) + "t12 0 0 1;".repeat(6));
        for (int t = 0; t < 6; t++) {
            x.moves(t, t);
        }
        for (int day = 0; day < 99; day++) {
            for (int t = 0; t < 6; t++) {
                // Who talks 12 hours and pays for them lacks 24, the others lack 12.
                if (t == 0 || day < 9 || (t < 5 && day < 33)) {
                    x.talks(t, 12, t);
                }
            }
            x.evening();
        }
        int owes = 99 * 24;
        for (int t = 1; t < 6; t++) {
            for (int i = 0; i < (t == 5 ? 13 : 16); i++) {
                owes += 99;
                due.is("a loan", x.lends(0, t, 99), owes);
            }
        }
        due.is("as much as may be", owes, 9999);
        due.is("the lender would have 10000", x.lends(0, 5, 1), STATE);
        due.is("his debt is as it was", x.tenant(0, 7), 9999);
        due.is("undone is the loan ahead of that", x.undo(), 9);
        due.is("call 512: his debt without it", x.tenant(0, 7), 9900);
    }

    /** As much DEBT as an evening may leave: it is an object's 511th call, one more is left to look at it. */
    private static void mostDebtByAnEvening() {
        due.of(10, "(DEBT 0 at first, 9999 at most.)");
        int[] notLent = {0, 7, 8, 9, 10};
        int[] ahead = {9984, 9977, 9976, 9975, 9974};
        int[] behind = {9999, 9999, 9999, 9999, 9998};
        for (int i = 0; i < notLent.length; i++) {
            // The second one lacks 9 hours, the four others 12; the last of them has what was not lent, too.
            int all = behind[i] + 9 + 4 * 12 + notLent[i];
            String what = ahead[i] + " and 24 hours more";
            due.is(what + ", all debts", lastEvening(notLent[i], ahead[i], all).now(1), all);
            due.is(what + ", tenant(0, 7)", lastEvening(notLent[i], ahead[i], all).tenant(0, 7), behind[i]);
            due.is(what + ", tenant(5, 7)", lastEvening(notLent[i], ahead[i], all).tenant(5, 7), 12 + notLent[i]);
            due.is(what + ", mark(3, 0)", lastEvening(notLent[i], ahead[i], all).mark(3, 0), 2 * behind[i]);
        }
        due.is("it may be undone", lastEvening(0, 9984, 10056).undo(), 9);
        due.is("it was the last one", lastEvening(0, 9984, 10056).evening(), STATE);
    }

    /** An object behind its 511th call: 98 days, all debts but a few hours lent to the first one, an evening more. */
    private static SilentRent lastEvening(int notLent, int ahead, int all) {
        String text = "r24;".repeat(6) + "t9 0 0 1;".repeat(2) + "t12 0 0 1;".repeat(4);
        SilentRent x = Due.told(text);
        int calls = text.length() + 1;
        for (int t = 0; t < 6; t++) {
            x.moves(t, t);
            calls++;
        }
        int[] owes = new int[6];
        for (int day = 0; day < 98; day++) {
            for (int t = 0; t < 6; t++) {
                // Who pays for all his hours lacks 24, the others lack 12.
                boolean pays = t < 2 || (t == 2 && day < 48);
                if (pays) {
                    x.talks(t, t < 2 ? 15 : 12, t);
                    calls++;
                }
                owes[t] += pays ? 24 : 12;
            }
            x.evening();
            calls++;
        }
        for (int t = 1; t < 6; t++) {
            int left = t == 5 ? notLent : 0;
            while (owes[t] > left) {
                int h = Math.min(99, owes[t] - left);
                owes[t] -= h;
                owes[0] += h;
                due.is("a loan", x.lends(0, t, h), owes[0]);
                calls++;
            }
        }
        due.is("what the first one owes", owes[0], ahead);
        x.talks(0, 15, 0);
        due.is("all debts, the evening of day 98", x.evening(), all);
        due.is("calls", calls + 2, 511);
        return x;
    }

    private static void undone() {
        due.of(12, "UNDONE: how many more may be.");
        SilentRent x = Due.told("r20;r5;t4 0 3 1;t12 0 5 1;");
        due.is("nothing yet", x.undo(), STATE);
        x.moves(0, 0);
        x.talks(0, 7, 1);
        x.evening();
        x.talks(0, 2, 0);
        x.evening();
        due.is("debts", x.now(1), 2);
        x.lends(1, 0, 2);
        x.moves(0, 1);
        due.of(12, "UNDONE: the latest MOVE, TALK, EVENING, LOAN (10 are known, older ones are lost): all is as ahead of it.");
        due.is("the move", x.undo(), 6);
        due.is("room again", x.tenant(0, 4), 0);
        due.is("the loan", x.undo(), 5);
        due.is("debt 0 again", x.tenant(0, 7), 2);
        due.is("debt 1 again", x.tenant(1, 7), 0);
        due.is("the evening", x.undo(), 4);
        due.is("the day", x.now(0), 1);
        due.is("debt 0 again", x.tenant(0, 7), 0);
        due.is("talked again", x.tenant(0, 5), 2);
        due.is("pays again", x.tenant(0, 6), 2);
        due.is("the talk", x.undo(), 3);
        due.is("talked again", x.tenant(0, 5), 0);
        due.is("pays again", x.tenant(0, 6), 0);
        due.is("the evening", x.undo(), 2);
        due.is("talked again", x.tenant(0, 5), 7);
        due.is("pays again", x.tenant(1, 6), 7);
        due.is("day 0", x.now(0), 0);
        due.is("the talk", x.undo(), 1);
        due.is("the first move", x.undo(), 0);
        due.is("nowhere again", x.tenant(0, 4), NONE);
        due.of(12, "STATE: none.");
        due.is("none is left", x.undo(), STATE);
        due.is("all goes on", x.moves(0, 1), NONE);
        due.is("one may be undone", x.count(4), 1);
        twins.refused("none, nobody", Stories.NOTHING, SilentRent::undo, STATE);
        twins.refused("none, as told", Stories.TOLD, SilentRent::undo, STATE);
        twins.refused("none is left", y -> {
            Stories.BUSY.tell(y);
            for (int i = 0; i < 10; i++) {
                y.undo();
            }
        }, SilentRent::undo, STATE);
    }

    private static void eachKindIsUndone() {
        due.of(12, "UNDONE: the latest MOVE, TALK, EVENING, LOAN (10 are known, older ones are lost): all is as ahead of it.");
        Twins.Story[] ahead = {Stories.TOLD, y -> {
            Stories.TOLD.tell(y);
            y.moves(0, 0);
            y.talks(0, 9, 2);
            y.moves(2, 1);
            y.talks(2, 14, 2);
            y.evening();
            y.talks(1, 3, 1);
        }};
        for (Twins.Story story : ahead) {
            goneAndUndone("a move", story, y -> y.moves(1, 2));
            goneAndUndone("a move out", story, y -> y.moves(0, -1));
            goneAndUndone("a talk", story, y -> y.talks(1, 2, 2));
            goneAndUndone("an evening", story, SilentRent::evening);
            goneAndUndone("a loan", story, y -> y.lends(1, 2, 1));
        }
    }

    /** A change that is undone leaves nothing; a refused one is not there to be undone. */
    private static void goneAndUndone(String what, Twins.Story ahead, Twins.Call change) {
        twins.alike(what + ", undone", ahead, y -> {
            ahead.tell(y);
            if (change.on(y) != STATE) {
                y.undo();
            }
        });
    }

    private static void allSixAreAsAhead() {
        due.of(12, "all is as ahead of it.");
        SilentRent ahead = new SilentRent();
        Stories.SIX.tell(ahead);
        Stories.asSix(due, "nothing to undo yet", ahead);
        sixUndone("an evening", SilentRent::evening);
        for (int t = 0; t < 6; t++) {
            int who = t;
            sixUndone("a move out", y -> y.moves(who, -1));
            sixUndone("a talk", y -> y.talks(who, 6, who));
            sixUndone("a talk that another one pays for", y -> y.talks(0, 11, who));
            sixUndone("a loan of a neighbour", y -> y.lends((who + 1) % 6, who, 13));
        }
    }

    /** The change once and undone, then with nine more behind it and all ten undone. */
    private static void sixUndone(String what, Twins.Call change) {
        SilentRent x = new SilentRent();
        Stories.SIX.tell(x);
        due.is(what + " may be", change.on(x) >= 0 ? 1 : 0, 1);
        due.is(what + " is undone", x.undo(), 9);
        Stories.asSix(due, what + " undone", x);
        change.on(x);
        for (int i = 0; i < 9; i++) {
            x.evening();
        }
        for (int left = 9; left >= 0; left--) {
            due.is(what + " and nine evenings are undone", x.undo(), left);
        }
        Stories.asSix(due, what + " and nine evenings undone", x);
    }

    private static void tenAreKnown() {
        due.of(12, "UNDONE: the latest MOVE, TALK, EVENING, LOAN (10 are known, older ones are lost): all is as ahead of it.");
        for (int many = 9; many <= 24; many++) {
            int known = Math.min(many, 10);
            SilentRent x = Due.told("t0 0 0 1;");
            for (int h = 1; h <= many; h++) {
                x.talks(0, 1, 0);
                due.is("how many may be undone", x.count(4), Math.min(h, 10));
            }
            for (int left = known - 1; left >= 0; left--) {
                due.is("undo()", x.undo(), left);
                due.is("talked", x.tenant(0, 5), many - known + left);
            }
            due.is("older ones are lost", x.undo(), STATE);
            due.is("talked", x.tenant(0, 5), many - known);
        }
        // Undone ones make room for others: the oldest is lost only when an eleventh comes.
        SilentRent y = Due.told("t0 0 0 1;");
        for (int h = 1; h <= 10; h++) {
            y.talks(0, 1, 0);
        }
        due.is("one undone", y.undo(), 9);
        y.talks(0, 5, 0);
        due.is("ten again", y.count(4), 10);
        for (int left = 9; left >= 0; left--) {
            due.is("undo()", y.undo(), left);
        }
        due.is("all of it", y.tenant(0, 5), 0);
    }

    private static void refusedIsNotKnown() {
        due.of(12, "UNDONE: the latest MOVE, TALK, EVENING, LOAN (10 are known, older ones are lost): all is as ahead of it.");
        SilentRent x = new SilentRent();
        Stories.AT_ITS_LIMITS.tell(x);
        x.moves(0, -1);
        x.moves(0, -1);
        x.moves(0, 1);
        x.moves(0, 6);
        x.talks(1, 24, 1);
        x.talks(1, 25, 1);
        x.talks(0, 1, 4);
        due.is("a talk that may be", x.tenant(0, 5), 1);
        x.evening();
        x.lends(0, 0, 1);
        x.lends(0, 5, 99);
        due.is("the talk", x.undo(), 9);
        due.is("talked", x.tenant(0, 5), 0);
        due.is("the move", x.undo(), 8);
        due.is("where he lives", x.tenant(0, 4), 0);
        due.is("an evening", x.undo(), 7);
        due.is("day 98", x.now(0), 98);
    }

    private static void now() {
        due.of(13, "0 the DAY, 1 all DEBTS, 2 who LIVES in a ROOM (bits), 3 ROOMS that are empty (bits), 4 who LIVES in one that he does not meet (bits).");
        SilentRent x = Due.told("r24;r12;r0;t0 0 0 1;t12 0 0 1;t12 12 0 1;");
        due.is("the day", x.now(0), 0);
        due.is("all debts", x.now(1), 0);
        due.is("nobody lives in a room", x.now(2), 0);
        due.is("all rooms are empty", x.now(3), 7);
        due.is("who lives nowhere meets all", x.now(4), 0);
        x.moves(0, 0);
        x.moves(2, 1);
        due.is("who lives in a room", x.now(2), 5);
        due.is("empty rooms", x.now(3), 4);
        due.is("who does not meet his, the other one just does", x.now(4), 4);
        x.moves(0, -1);
        x.moves(1, 0);
        due.is("who lives in a room", x.now(2), 6);
        due.is("empty rooms", x.now(3), 4);
        due.is("who does not meet his", x.now(4), 6);
        x.evening();
        due.is("the day", x.now(0), 1);
        due.is("all debts", x.now(1), 12);
        SilentRent y = new SilentRent();
        Stories.AT_ITS_LIMITS.tell(y);
        due.is("day 99", y.now(0), 99);
        due.is("all live in a room", y.now(2), 63);
        due.is("no room is empty", y.now(3), 0);
        // PRICES 12 14 5 20 0 24, met up to 14 10 8 16 0 24.
        due.is("who does not meet his", y.now(4), 10);
        // More tenants than rooms, more rooms than tenants.
        SilentRent few = Due.told("r24;t0 0 0 1;t0 0 0 1;t12 0 0 1;");
        few.moves(2, 0);
        due.is("the last one of three lives in the only room", few.now(2), 4);
        due.is("no room is empty", few.now(3), 0);
        due.is("the last one does not meet it", few.now(4), 4);
        SilentRent many = Due.told("r1;r2;r3;r4;r5;r24;t0 1 0 1;");
        due.is("six empty rooms", many.now(3), 63);
        many.moves(0, 5);
        due.is("the only one lives in the last room", many.now(2), 1);
        due.is("five empty rooms", many.now(3), 31);
        due.is("he does not meet it", many.now(4), 1);
        // One hour lacks to the price, none lacks, one is more.
        SilentRent z = Due.told("r13;r12;r11;t12 0 0 1;t12 0 0 1;t12 0 0 1;");
        for (int t = 0; t < 3; t++) {
            z.moves(t, t);
        }
        due.is("who lacks one hour does not meet his", z.now(4), 1);
    }

    private static void nowRefused() {
        due.of(13, "BAD.");
        for (int no : new int[] {Integer.MIN_VALUE, -9, -2, -1, 5, 6, 32, 256, Integer.MAX_VALUE}) {
            twins.refused("now(" + no + ")", Stories.BUSY, x -> x.now(no), BAD);
            twins.refused("now(" + no + ")", Stories.NOTHING, x -> x.now(no), BAD);
        }
    }
}

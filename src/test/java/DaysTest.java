/** Promises 8 to 13: moves, talks, evenings, loans, what is undone, how it stands. */
public final class DaysTest {
    private static final Due due = new Due("DaysTest");
    private static final int BAD = SilentRent.BAD, STATE = SilentRent.STATE, NONE = SilentRent.NONE;

    public static void main(String[] args) {
        moves();
        talks();
        evenings();
        lastDay();
        mostDebt();
        loans();
        undone();
        tenAreKnown();
        now();
        due.end();
    }

    private static void moves() {
        SilentRent x = Due.told("r1;r2;t0 0 0 1;t0 0 0 1;");
        due.is("moves(0, 1)", x.moves(0, 1), NONE);
        due.is("he is there", x.moves(0, 1), STATE);
        due.is("another one is there", x.moves(1, 1), STATE);
        due.is("a refused one is not to be undone", x.count(4), 1);
        due.is("moves(0, 0)", x.moves(0, 0), 1);
        due.is("the room is empty then", x.moves(1, 1), NONE);
        due.is("out", x.moves(0, -1), 0);
        due.is("he is out", x.moves(0, -1), STATE);
        due.is("he lives nowhere", x.tenant(0, 4), NONE);
        due.is("no such tenant", x.moves(2, 0), BAD);
        due.is("no such tenant", x.moves(-1, 0), BAD);
        due.is("no such room", x.moves(0, 2), BAD);
        due.is("no such room", x.moves(0, -2), BAD);
        due.is("NONE is no room", x.moves(0, NONE), BAD);
    }

    private static void talks() {
        SilentRent x = Due.told("t4 0 3 1;t12 0 5 1;t0 0 3 1;");
        due.is("himself", x.talks(0, 5, 0), 5);
        due.is("one of more wits pays", x.talks(0, 6, 1), 11);
        due.is("pays 0", x.tenant(0, 6), 5);
        due.is("pays 1", x.tenant(1, 6), 6);
        due.is("one of as many wits", x.talks(0, 1, 2), STATE);
        due.is("one of fewer wits", x.talks(1, 1, 0), STATE);
        due.is("too much", x.talks(0, 10, 0), STATE);
        due.is("just as much as may be", x.talks(0, 9, 0), 20);
        due.is("no more", x.talks(0, 1, 1), STATE);
        due.is("24 hours", x.talks(2, 24, 2), 24);
        due.is("0 hours", x.talks(1, 0, 1), BAD);
        due.is("25 hours", x.talks(1, 25, 1), BAD);
        due.is("many hours", x.talks(1, Integer.MAX_VALUE, 1), BAD);
        due.is("no such tenant", x.talks(3, 1, 0), BAD);
        due.is("no such tenant", x.talks(-1, 1, 0), BAD);
        due.is("no such payer", x.talks(1, 1, 3), BAD);
        due.is("no such payer", x.talks(1, 1, -1), BAD);
        due.is("BAD ahead of STATE", x.talks(0, 24, 3), BAD);
        due.is("the sleeper has 12 hours", x.talks(1, 13, 1), STATE);
        due.is("the sleeper has 12 hours", x.talks(1, 12, 1), 12);
    }

    private static void evenings() {
        SilentRent x = Due.told("r20;r5;r10;t4 0 3 1;t12 0 5 1;t0 0 3 1;");
        x.moves(0, 0);
        x.moves(1, 1);
        x.talks(0, 7, 0);
        x.talks(1, 9, 1);
        x.talks(2, 24, 2);
        due.is("what silent hours lack is debt", x.evening(), 9);
        due.is("debt 0", x.tenant(0, 7), 7);
        due.is("debt 1", x.tenant(1, 7), 2);
        due.is("who lives nowhere owes nothing", x.tenant(2, 7), 0);
        due.is("the day", x.now(0), 1);
        for (int t = 0; t < 3; t++) {
            due.is("talked is 0 again", x.tenant(t, 5), 0);
            due.is("pays is 0 again", x.tenant(t, 6), 0);
        }
        due.is("more silence is less debt, 0 at least", x.evening(), 7);
        due.is("debt 1", x.tenant(1, 7), 0);
        x.moves(0, 2);
        x.talks(0, 8, 1);
        x.talks(0, 7, 0);
        due.is("who made him speak pays", x.evening(), 5);
        due.is("debt 0", x.tenant(0, 7), 4);
        due.is("debt 1", x.tenant(1, 7), 1);
    }

    private static void lastDay() {
        SilentRent x = Due.told("r24;t12 0 0 1;");
        x.moves(0, 0);
        for (int day = 1; day <= 99; day++) {
            due.is("evening " + day, x.evening(), 12 * day);
        }
        due.is("evening 100", x.evening(), STATE);
        due.is("day 99", x.now(0), 99);
        due.is("nothing changed", x.now(1), 1188);
        due.is("ten may be undone", x.count(4), 10);
        due.is("one day less", x.undo(), 9);
        due.is("day 98", x.now(0), 98);
        due.is("day 99 again", x.evening(), 1188);
    }

    /** As much DEBT as one may have, in 508 of an object's 512 calls: 85 of them for the house. */
    private static void mostDebt() {
        SilentRent x = Due.told("r24;r24;r24;r24;r24;r24;t12 0 0 1;t12 0 0 1;t12 0 0 1;t12 0 0 1;t12 0 0 1;t12 0 0 1;");
        for (int t = 0; t < 6; t++) {
            x.moves(t, t);
        }
        for (int day = 0; day < 99; day++) {
            for (int t = 0; t < 6; t++) {
                // Who talks 12 hours and pays for them lacks 24, the others lack 12.
                if (t == 0 || day < 9 || (t < 5 && day < 33)) {
                    x.talks(t, 12, t);
                }
            }
            x.evening();
        }
        int owes = 99 * 24;
        for (int t = 1; t < 6; t++) {
            for (int i = 0; i < (t == 5 ? 13 : 16); i++) {
                owes += 99;
                due.is("a loan", x.lends(0, t, 99), owes);
            }
        }
        due.is("the lender would have 10000", x.lends(0, 5, 1), STATE);
        due.is("9999", owes, 9999);
    }

    private static void loans() {
        SilentRent x = Due.told("r24;r20;t12 0 0 1;t12 0 0 1;t0 0 0 1;");
        x.moves(0, 0);
        x.moves(1, 1);
        x.evening();
        due.is("lends(2, 0, 5)", x.lends(2, 0, 5), 5);
        due.is("lends(2, 1, 8)", x.lends(2, 1, 8), 13);
        due.is("debt 0", x.tenant(0, 7), 7);
        due.is("debt 1", x.tenant(1, 7), 0);
        due.is("he has not so much", x.lends(2, 0, 8), STATE);
        due.is("all of it", x.lends(2, 0, 7), 20);
        due.is("he has none", x.lends(2, 0, 1), STATE);
        due.is("all debts", x.now(1), 20);
        due.is("like ones", x.lends(2, 2, 1), BAD);
        due.is("0 hours", x.lends(0, 2, 0), BAD);
        due.is("100 hours", x.lends(0, 2, 100), BAD);
        due.is("99 hours, not so much", x.lends(0, 2, 99), STATE);
        due.is("no such lender", x.lends(3, 2, 1), BAD);
        due.is("no such lender", x.lends(-1, 2, 1), BAD);
        due.is("no such tenant", x.lends(0, 3, 1), BAD);
        due.is("no such tenant", x.lends(0, -1, 1), BAD);
        due.is("how many may be undone", x.count(4), 6);
    }

    private static void undone() {
        SilentRent x = Due.told("r20;r5;t4 0 3 1;t12 0 5 1;");
        due.is("nothing yet", x.undo(), STATE);
        x.moves(0, 0);
        x.talks(0, 7, 1);
        x.evening();
        x.talks(0, 2, 0);
        x.evening();
        due.is("debts", x.now(1), 2);
        x.lends(1, 0, 2);
        x.moves(0, 1);
        due.is("the move", x.undo(), 6);
        due.is("room again", x.tenant(0, 4), 0);
        due.is("the loan", x.undo(), 5);
        due.is("debt 0 again", x.tenant(0, 7), 2);
        due.is("debt 1 again", x.tenant(1, 7), 0);
        due.is("the evening", x.undo(), 4);
        due.is("the day", x.now(0), 1);
        due.is("debt 0 again", x.tenant(0, 7), 0);
        due.is("talked again", x.tenant(0, 5), 2);
        due.is("pays again", x.tenant(0, 6), 2);
        due.is("the talk", x.undo(), 3);
        due.is("talked again", x.tenant(0, 5), 0);
        due.is("pays again", x.tenant(0, 6), 0);
        due.is("the evening", x.undo(), 2);
        due.is("talked again", x.tenant(0, 5), 7);
        due.is("pays again", x.tenant(1, 6), 7);
        due.is("day 0", x.now(0), 0);
        due.is("the talk", x.undo(), 1);
        due.is("the first move", x.undo(), 0);
        due.is("nowhere again", x.tenant(0, 4), NONE);
        due.is("none is left", x.undo(), STATE);
        due.is("all goes on", x.moves(0, 1), NONE);
        due.is("one may be undone", x.count(4), 1);
    }

    private static void tenAreKnown() {
        SilentRent x = Due.told("t0 0 0 1;");
        for (int h = 1; h <= 13; h++) {
            x.talks(0, 1, 0);
            due.is("how many may be undone", x.count(4), Math.min(h, 10));
        }
        for (int left = 9; left >= 0; left--) {
            due.is("undo()", x.undo(), left);
            due.is("talked", x.tenant(0, 5), 3 + left);
        }
        due.is("older ones are lost", x.undo(), STATE);
        due.is("talked", x.tenant(0, 5), 3);
    }

    private static void now() {
        SilentRent x = Due.told("r24;r12;r0;t0 0 0 1;t12 0 0 1;t12 12 0 1;");
        due.is("all rooms are empty", x.now(3), 7);
        x.moves(0, 0);
        x.moves(2, 1);
        due.is("the day", x.now(0), 0);
        due.is("who lives in a room", x.now(2), 5);
        due.is("empty rooms", x.now(3), 4);
        due.is("who does not meet his", x.now(4), 4);
        x.moves(0, -1);
        x.moves(1, 0);
        due.is("who lives in a room", x.now(2), 6);
        due.is("who does not meet his", x.now(4), 6);
        x.evening();
        due.is("the day", x.now(0), 1);
        due.is("all debts", x.now(1), 12);
        due.is("now(-1)", x.now(-1), BAD);
        due.is("now(5)", x.now(5), BAD);
    }
}

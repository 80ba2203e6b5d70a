/** Promises 16 to 19: hours to sell and to buy, debts settled. */
public final class DebtsTest {
    private static final Due due = new Due("DebtsTest");
    private static final int BAD = SilentRent.BAD, NO = SilentRent.NO;

    public static void main(String[] args) {
        spare();
        rest();
        restAtTheEdges();
        payments();
        settled();
        due.end();
    }

    private static void spare() {
        SilentRent x = Due.told("r10;r5;t8 10 0 1;t12 3 0 1;t0 0 0 1;");
        due.is("lives nowhere", x.spare(0), 0);
        x.moves(0, 0);
        x.moves(1, 1);
        due.is("must buy", x.spare(0), -4);
        due.is("has to sell", x.spare(1), 4);
        due.is("lives nowhere", x.spare(2), 0);
        x.talks(1, 5, 1);
        due.is("what he talked does not matter", x.spare(1), 4);
        due.is("spare(3)", x.spare(3), NO);
        due.is("spare(-1)", x.spare(-1), NO);
    }

    private static void rests(String text, int price, int bought) {
        SilentRent x = Due.told(text);
        for (int t = 0; t < x.count(1); t++) {
            x.moves(t, t);
        }
        due.is(text + " rest(0)", x.rest(0), price);
        due.is(text + " rest(1)", x.rest(1), bought);
    }

    private static void rest() {
        rests("", 0, 0);
        // Nobody lacks: it rests at 0.
        rests("r5;t12 0 0 9;", 0, 0);
        // He lacks 4 and buys for 6; the other one has 4 to sell for 3.
        rests("r10;r5;t8 10 0 6;t12 3 0 3;", 3, 4);
        // Too few for sale: at 7 he buys no more.
        rests("r10;r5;t8 10 0 6;t12 4 0 3;", 7, 0);
        // For sale for more than he buys for.
        rests("r10;r5;t8 10 0 3;t12 3 0 6;", 4, 0);
        // For sale for just what he buys for.
        rests("r10;r5;t8 10 0 5;t12 3 0 5;", 5, 4);
        // Two lack 4 each; the one who buys for 2 falls out at 3.
        rests("r10;r10;r5;t8 10 0 2;t8 10 0 8;t12 2 0 1;", 3, 4);
    }

    private static void restAtTheEdges() {
        rests("r24;t12 12 0 9;", 10, 0);
        rests("r24;t12 12 0 1;", 2, 0);
        SilentRent x = Due.told("r24;t12 12 0 9;");
        due.is("who lives nowhere lacks nothing", x.rest(0), 0);
        due.is("rest(2)", x.rest(2), BAD);
        due.is("rest(-1)", x.rest(-1), BAD);
    }

    /** A house in which each owes what is told, one evening long; the rents are met by nobody. */
    private static SilentRent owing(int... debts) {
        StringBuilder b = new StringBuilder();
        for (int t = 0; t < debts.length; t++) {
            b.append('r').append(12 + debts[t]).append(";t12 0 0 1;");
        }
        SilentRent x = Due.told(b.toString());
        for (int t = 0; t < debts.length; t++) {
            x.moves(t, t);
        }
        x.evening();
        for (int t = 0; t < debts.length; t++) {
            due.is("debt " + t, x.tenant(t, 7), debts[t]);
        }
        return x;
    }

    private static void payments() {
        due.is("nobody", new SilentRent().payments(), 0);
        due.is("one alone", owing(5).payments(), 0);
        due.is("all alike", owing(5, 5, 5).payments(), 0);
        due.is("the one more is where it is due", owing(6, 5, 5).payments(), 0);
        due.is("the one more is not where it is due", owing(5, 6, 5).payments(), 1);
        due.is("one pair", owing(4, 6).payments(), 1);
        due.is("two pairs", owing(2, 8, 6, 4).payments(), 2);
        due.is("three pairs", owing(2, 8, 6, 4, 1, 9).payments(), 3);
        due.is("two pairs, two who owe their share", owing(2, 3, 7, 8, 5, 5).payments(), 2);
        due.is("one group of three", owing(0, 4, 11).payments(), 2);
        due.is("one group of four that has no pair", owing(0, 2, 12, 6, 5, 5).payments(), 3);
        due.is("a group of three, a pair", owing(0, 7, 8, 1, 9, 5).payments(), 3);
        due.is("two groups of three", owing(0, 7, 11, 4, 4, 10).payments(), 4);
        due.is("six, none alike", owing(12, 0, 0, 0, 0, 0).payments(), 5);
    }

    private static void settled() {
        SilentRent x = owing(9, 0, 2, 0);
        int[] want = {-6, 3, 1, 2};
        for (int t = 0; t < 4; t++) {
            due.is("settled(" + t + ")", x.settled(t), want[t]);
        }
        due.is("settled(4)", x.settled(4), NO);
        due.is("settled(-1)", x.settled(-1), NO);
        due.is("nothing is changed", x.tenant(0, 7), 9);
        due.is("one alone", owing(7).settled(0), 0);
        due.is("nobody", new SilentRent().settled(0), NO);
    }
}

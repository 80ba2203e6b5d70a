/** All promises: long runs of calls, each answer held against the naive model's. */
public final class ModelTest {
    private static final int RUNS = 6000;
    // What an object answers behind its 512th call is free.
    private static final int CALLS = 512;
    private static final int LONGEST = 201;
    private static final Due due = new Due("ModelTest");

    // Always the same numbers, so that a fault comes again.
    private static long seed = 20261118;

    private static int below(int bound) {
        seed = seed * 6364136223846793005L + 1442695040888963407L;
        return (int) ((seed >>> 33) % bound);
    }

    private static boolean oneIn(int bound) {
        return below(bound) == 0;
    }

    public static void main(String[] args) {
        for (int run = 0; run < RUNS; run++) {
            run(run);
        }
        due.end();
    }

    private static void run(int run) {
        SilentRent x = new SilentRent();
        Model m = new Model();
        boolean wildRun = oneIn(10);
        int before = due.asked();
        retell(run, x, m);
        for (int i = 1; due.asked() - before < CALLS; i++) {
            int left = CALLS - (due.asked() - before);
            if (left >= LONGEST && oneIn(120)) {
                retell(run, x, m);
            } else if (left >= LONGEST && oneIn(60)) {
                undoMany(run, x, m);
            } else {
                // Debts and rooms first, so that the questions have something to tell.
                call(run, x, m, i < 40 ? 5 + below(14) : below(42), wildRun && oneIn(3));
            }
        }
    }

    private static void retell(int run, SilentRent x, Model m) {
        String text = text();
        for (int i = 0; i < text.length() && i < LONGEST - 1; i++) {
            due.is(run + ": type", x.type(text.charAt(i)), m.type(text.charAt(i)));
        }
        due.is(run + ": house() of '" + text + "'", x.house(), m.house());
    }

    private static void undoMany(int run, SilentRent x, Model m) {
        for (int many = below(12); many > 0; many--) {
            due.is(run + ": undo()", x.undo(), m.undo());
            int t = below(6);
            for (int what = 4; what <= 8; what++) {
                due.is(run + ": undone, tenant(" + t + ", " + what + ")", x.tenant(t, what), m.tenant(t, what));
            }
        }
    }

    private static String text() {
        StringBuilder b = new StringBuilder();
        int rooms = below(7);
        int tenants = oneIn(3) ? 6 : below(7);
        int dear = 1 + below(25);
        for (int r = 0; r < rooms; r++) b.append('r').append(blank()).append(below(dear)).append(";");
        for (int t = 0; t < tenants; t++) {
            b.append('t').append(below(13)).append(' ').append(below(13)).append(' ').append(below(10)).append(' ').append(1 + below(9)).append(';');
        }
        int hears = tenants < 2 ? 0 : below(3 * tenants);
        for (int i = 0; i < hears; i++) {
            int a = below(tenants);
            int c = (a + 1 + below(tenants - 1)) % tenants;
            b.append('h').append(a).append(' ').append(c).append(blank()).append(';');
        }
        int chairs = below(6);
        for (int c = 0; c < chairs; c++) b.append('c').append(below(64)).append(';');
        if (oneIn(4) && b.length() > 0) spoil(b);
        return b.toString();
    }

    private static String blank() {
        return oneIn(6) ? "  " : "";
    }

    private static void spoil(StringBuilder b) {
        String signs = "rthcx 0123456789;;A~\n" + (char) 229;
        int at = below(b.length());
        switch (below(4)) {
            case 0: b.insert(at, signs.charAt(below(signs.length()))); break;
            case 1: b.setCharAt(at, signs.charAt(below(signs.length()))); break;
            case 2: b.setLength(at); break;
            default: b.deleteCharAt(at); break;
        }
    }

    /** Mostly a number below the bound, at times one just beside, in a wild call any. */
    private static int some(int bound, boolean wild) {
        if (wild) {
            int[] numbers = {Integer.MIN_VALUE, Integer.MAX_VALUE, -1, -2, -9, -1000000, 31, 32, 33, 64, 1 << 30, 255, 256, 99, 100};
            return numbers[below(numbers.length)];
        }
        return below(bound + 2) - 1;
    }

    /** Mostly what he would lack in such a room, so that ways are left that fit. */
    private static int lacks(Model m, int t, int r, int other) {
        if (oneIn(5) || m.tenant(t, 0) < 0 || m.room(r, 0) < 0) {
            return other;
        }
        return Math.max(0, m.room(r, 0) - (24 - m.tenant(t, 0) - m.tenant(t, 1)));
    }

    private static void call(int run, SilentRent x, Model m, int which, boolean wild) {
        int t = some(6, wild);
        int u = some(6, wild);
        int what = some(10, wild);
        int hours = some(99, wild);
        int bits = some(64, wild);
        String call = run + ": call " + which + "(" + t + ", " + u + ", " + what + ")";
        long got;
        long want;
        switch (which) {
            case 0: got = x.clear(); want = m.clear(); break;
            case 1: got = x.room(t, what % 4); want = m.room(t, what % 4); break;
            case 2: case 3: got = x.tenant(t, what); want = m.tenant(t, what); break;
            case 4: got = x.chair(t); want = m.chair(t); break;
            case 5: case 6: case 7: case 8: got = x.moves(t, u); want = m.moves(t, u); break;
            case 9: case 10: case 11: got = x.talks(t, what, u); want = m.talks(t, what, u); break;
            case 12: got = x.talks(t, what * 3, t); want = m.talks(t, what * 3, t); break;
            case 13: case 14: case 15: got = x.evening(); want = m.evening(); break;
            case 16: case 17: got = x.lends(t, u, what); want = m.lends(t, u, what); break;
            case 18: got = x.lends(t, u, hours); want = m.lends(t, u, hours); break;
            case 19: got = x.undo(); want = m.undo(); break;
            case 20: got = x.now(what % 6); want = m.now(what % 6); break;
            case 21: case 22: got = x.housed(t); want = m.housed(t); break;
            case 23: got = x.housed(-2); want = m.housed(-2); break;
            case 24: got = x.crowd(); want = m.crowd(); break;
            case 25: got = x.spare(t); want = m.spare(t); break;
            case 26: got = x.rest(what % 3); want = m.rest(what % 3); break;
            case 27: got = x.payments(); want = m.payments(); break;
            case 28: got = x.settled(t); want = m.settled(t); break;
            case 29: got = x.told(t); want = m.told(t); break;
            case 30: got = x.rounds(t); want = m.rounds(t); break;
            case 31: got = x.watch(bits); want = m.watch(bits); break;
            case 32: got = x.odds(what, t % 3); want = m.odds(what, t % 3); break;
            case 33: int lacks = lacks(m, t, u, what); got = x.book(t, lacks); want = m.book(t, lacks); break;
            case 34: got = x.burn(); want = m.burn(); break;
            case 35: got = x.fits(t); want = m.fits(t); break;
            case 36: got = x.may(t); want = m.may(t); break;
            case 37: got = x.mark(u, t); want = m.mark(u, t); break;
            case 38: got = x.keep(what % 3); want = m.keep(what % 3); break;
            case 39: got = x.back(what % 3); want = m.back(what % 3); break;
            case 40: got = x.count(u); want = m.count(u); break;
            default: got = x.trace(); want = m.trace(); break;
        }
        due.is(call, got, want);
    }
}

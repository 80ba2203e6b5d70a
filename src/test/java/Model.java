import java.math.BigInteger;
import java.util.ArrayDeque;
import java.util.ArrayList;
import java.util.Arrays;
import java.util.HashMap;
import java.util.List;
import java.util.Map;

/** The document once more, as naively as can be: every way is tried, every state is copied whole. */
final class Model {
    static final int BAD = -1, STATE = -2, FULL = -3, NONE = -9, NO = -1000000;

    private StringBuilder text = new StringBuilder();
    private List<Integer> prices = new ArrayList<>();
    private List<int[]> tenants = new ArrayList<>();
    private boolean[][] hears = new boolean[6][6];
    private List<Integer> chairs = new ArrayList<>();
    private State state = new State();
    private ArrayDeque<State> past = new ArrayDeque<>();
    private Map<Integer, Object[]> images = new HashMap<>();
    private List<int[]> book = new ArrayList<>();
    private long trace = 0;

    private static final class State {
        int day = 0;
        int[] home = {NONE, NONE, NONE, NONE, NONE, NONE};
        int[] talked = new int[6];
        int[] pays = new int[6];
        int[] debt = new int[6];

        State copy() {
            State s = new State();
            s.day = day;
            s.home = home.clone();
            s.talked = talked.clone();
            s.pays = pays.clone();
            s.debt = debt.clone();
            return s;
        }
    }

    private boolean isTenant(int t) {
        return t >= 0 && t < tenants.size();
    }

    private boolean isRoom(int r) {
        return r >= 0 && r < prices.size();
    }

    private int free(int t) {
        return 24 - tenants.get(t)[0];
    }

    private int must(int t) {
        return tenants.get(t)[1];
    }

    private boolean met(int t, int r) {
        return free(t) - must(t) >= prices.get(r);
    }

    private int silent(int t) {
        int hours = free(t) - state.pays[t];
        return hours < 0 ? 0 : hours;
    }

    int type(int c) {
        if (c < 0 || c > 255) return BAD;
        if (text.length() == 200) return FULL;
        text.append((char) c);
        return text.length();
    }

    int clear() {
        int n = text.length();
        text = new StringBuilder();
        return n;
    }

    // A token: {place, kind (0 letters, 1 number, 2 semicolon, 3 wrong, 4 end)}, and its text.
    private static final class Token {
        final int place;
        final String text;

        Token(int place, String text) {
            this.place = place;
            this.text = text;
        }

        boolean letters() {
            return text.matches("[a-z]+");
        }

        boolean number(int least, int most) {
            if (!text.matches("0|[1-9][0-9]?")) return false;
            int n = Integer.parseInt(text);
            return least <= n && n <= most;
        }

        int value() {
            return Integer.parseInt(text);
        }
    }

    private List<Token> tokens() {
        List<Token> all = new ArrayList<>();
        java.util.regex.Matcher m = java.util.regex.Pattern.compile("[a-z]+|[0-9]+|[^ ]", java.util.regex.Pattern.DOTALL).matcher(text);
        while (m.find()) all.add(new Token(m.start(), m.group()));
        all.add(new Token(text.length(), ""));
        return all;
    }

    int house() {
        List<Token> tokens = tokens();
        List<Integer> newPrices = new ArrayList<>();
        List<int[]> newTenants = new ArrayList<>();
        boolean[][] newHears = new boolean[6][6];
        List<Integer> newChairs = new ArrayList<>();
        int at = 0;
        int items = 0;
        while (!tokens.get(at).text.isEmpty()) {
            Token head = tokens.get(at);
            int n = newTenants.size();
            int[][] limits;
            if (head.text.equals("r") && newPrices.size() < 6) limits = new int[][] {{0, 24}};
            else if (head.text.equals("t") && n < 6) limits = new int[][] {{0, 12}, {0, 12}, {0, 9}, {1, 9}};
            else if (head.text.equals("h")) limits = new int[][] {{0, n - 1}, {0, n - 1}};
            else if (head.text.equals("c") && newChairs.size() < 5) limits = new int[][] {{0, 63}};
            else return -10 - head.place;
            int[] told = new int[limits.length];
            for (int i = 0; i < limits.length; i++) {
                at++;
                Token t = tokens.get(at);
                if (!t.number(limits[i][0], limits[i][1])) return -10 - t.place;
                told[i] = t.value();
                if (head.text.equals("h") && i == 1 && told[0] == told[1]) return -10 - t.place;
            }
            at++;
            if (!tokens.get(at).text.equals(";")) return -10 - tokens.get(at).place;
            at++;
            items++;
            if (head.text.equals("r")) newPrices.add(told[0]);
            if (head.text.equals("t")) newTenants.add(told);
            if (head.text.equals("h")) newHears[told[0]][told[1]] = true;
            if (head.text.equals("c")) newChairs.add(told[0]);
        }
        prices = newPrices;
        tenants = newTenants;
        hears = newHears;
        chairs = newChairs;
        text = new StringBuilder();
        state = new State();
        past.clear();
        images.clear();
        book.clear();
        return items;
    }

    int room(int r, int what) {
        if (!isRoom(r) || what < 0 || what > 2) return BAD;
        if (what == 0) return prices.get(r);
        int bits = 0;
        for (int t = 0; t < tenants.size(); t++) {
            if (what == 1 && state.home[t] == r) return t;
            if (met(t, r)) bits += 1 << t;
        }
        return what == 1 ? NONE : bits;
    }

    int tenant(int t, int what) {
        if (!isTenant(t) || what < 0 || what > 9) return BAD;
        if (what < 4) return tenants.get(t)[what];
        if (what == 4) return state.home[t];
        if (what == 5) return state.talked[t];
        if (what == 6) return state.pays[t];
        if (what == 7) return state.debt[t];
        if (what == 8) return silent(t);
        int bits = 0;
        for (int b = 0; b < 6; b++) if (hears[t][b]) bits += 1 << b;
        return bits;
    }

    int chair(int c) {
        if (c < 0 || c >= chairs.size()) return BAD;
        return chairs.get(c) % (1 << tenants.size());
    }

    private void remember() {
        past.addLast(state.copy());
        if (past.size() > 10) past.removeFirst();
    }

    int moves(int t, int r) {
        if (!isTenant(t) || r != -1 && !isRoom(r)) return BAD;
        int till = state.home[t];
        if (r == -1 && till == NONE || r == till) return STATE;
        if (r != -1 && room(r, 1) != NONE) return STATE;
        remember();
        state.home[t] = r == -1 ? NONE : r;
        return till;
    }

    int talks(int t, int h, int payer) {
        if (!isTenant(t) || !isTenant(payer) || h < 1 || h > 24) return BAD;
        if (state.talked[t] + h > free(t)) return STATE;
        if (payer != t && tenants.get(payer)[2] <= tenants.get(t)[2]) return STATE;
        remember();
        state.talked[t] += h;
        state.pays[payer] += h;
        return state.talked[t];
    }

    int evening() {
        if (state.day == 99) return STATE;
        remember();
        for (int t = 0; t < tenants.size(); t++) {
            if (state.home[t] == NONE) continue;
            int silent = silent(t);
            int price = prices.get(state.home[t]);
            if (silent < price) state.debt[t] = Math.min(9999, state.debt[t] + price - silent);
            if (silent > price) state.debt[t] = Math.max(0, state.debt[t] - (silent - price));
        }
        state.talked = new int[6];
        state.pays = new int[6];
        state.day++;
        return Arrays.stream(state.debt).sum();
    }

    int lends(int lender, int t, int h) {
        if (!isTenant(lender) || !isTenant(t) || t == lender || h < 1 || h > 99) return BAD;
        if (state.debt[t] < h || state.debt[lender] + h > 9999) return STATE;
        remember();
        state.debt[t] -= h;
        state.debt[lender] += h;
        return state.debt[lender];
    }

    int undo() {
        if (past.isEmpty()) return STATE;
        state = past.removeLast();
        return past.size();
    }

    int now(int what) {
        if (what < 0 || what > 4) return BAD;
        if (what == 0) return state.day;
        if (what == 1) return Arrays.stream(state.debt).sum();
        int bits = 0;
        if (what == 3) {
            for (int r = 0; r < prices.size(); r++) if (room(r, 1) == NONE) bits += 1 << r;
            return bits;
        }
        for (int t = 0; t < tenants.size(); t++) {
            if (state.home[t] == NONE) continue;
            if (what == 2 || !met(t, state.home[t])) bits += 1 << t;
        }
        return bits;
    }

    private int[] bestWay;
    private int bestMany;
    private int bestPrices;

    private void tryWays(int t, int[] way) {
        if (t == tenants.size()) {
            int many = 0;
            int sum = 0;
            for (int r : way) {
                if (r != NONE) {
                    many++;
                    sum += prices.get(r);
                }
            }
            if (bestWay == null || many > bestMany || many == bestMany && sum > bestPrices) {
                bestWay = way.clone();
                bestMany = many;
                bestPrices = sum;
            }
            return;
        }
        for (int r = 0; r < prices.size(); r++) {
            boolean taken = false;
            for (int i = 0; i < t; i++) taken |= way[i] == r;
            if (!taken && met(t, r)) {
                way[t] = r;
                tryWays(t + 1, way);
            }
        }
        way[t] = NONE;
        tryWays(t + 1, way);
    }

    int housed(int t) {
        if (t != -1 && t != -2 && !isTenant(t)) return BAD;
        bestWay = null;
        tryWays(0, new int[tenants.size()]);
        return t == -1 ? bestMany : t == -2 ? bestPrices : bestWay[t];
    }

    /** All sets of so many, the fewest first, of as few the least bits first. */
    private static List<Integer> sets(int many) {
        List<Integer> all = new ArrayList<>();
        for (int set = 0; set < 1 << many; set++) all.add(set);
        all.sort((a, b) -> Integer.bitCount(a) != Integer.bitCount(b) ? Integer.bitCount(a) - Integer.bitCount(b) : a - b);
        return all;
    }

    private static boolean has(int set, int i) {
        return (set & 1 << i) != 0;
    }

    int crowd() {
        for (int set : sets(tenants.size())) {
            int meet = 0;
            for (int r = 0; r < prices.size(); r++) {
                boolean any = false;
                for (int t = 0; t < tenants.size(); t++) any |= has(set, t) && met(t, r);
                if (any) meet++;
            }
            if (meet < Integer.bitCount(set)) return set;
        }
        return NONE;
    }

    int spare(int t) {
        if (!isTenant(t)) return NO;
        return state.home[t] == NONE ? 0 : free(t) - must(t) - prices.get(state.home[t]);
    }

    int rest(int what) {
        if (what != 0 && what != 1) return BAD;
        for (int p = 0; p <= 10; p++) {
            int sold = 0;
            int bought = 0;
            for (int t = 0; t < tenants.size(); t++) {
                int asks = tenants.get(t)[3];
                if (spare(t) > 0 && asks <= p) sold += spare(t);
                if (spare(t) < 0 && asks >= p) bought -= spare(t);
            }
            if (sold >= bought) return what == 0 ? p : bought;
        }
        throw new IllegalStateException("no price");
    }

    private int share(int t) {
        int left = Arrays.stream(state.debt).sum();
        int n = tenants.size();
        int share = left / n;
        return t < left - share * n ? share + 1 : share;
    }

    // Each of those from i on joins a group or founds one; -1 if some group does not come to 0 at last.
    private int groups(List<Integer> lacks, int i, List<Integer> sums) {
        if (i == lacks.size()) {
            for (int sum : sums) if (sum != 0) return -1;
            return sums.size();
        }
        int most = -1;
        for (int g = 0; g < sums.size(); g++) {
            sums.set(g, sums.get(g) + lacks.get(i));
            most = Math.max(most, groups(lacks, i + 1, sums));
            sums.set(g, sums.get(g) - lacks.get(i));
        }
        sums.add(lacks.get(i));
        most = Math.max(most, groups(lacks, i + 1, sums));
        sums.remove(sums.size() - 1);
        return most;
    }

    int payments() {
        List<Integer> lacks = new ArrayList<>();
        for (int t = 0; t < tenants.size(); t++) if (settled(t) != 0) lacks.add(settled(t));
        return lacks.size() - groups(lacks, 0, new ArrayList<>());
    }

    int settled(int t) {
        return isTenant(t) ? share(t) - state.debt[t] : NO;
    }

    int told(int t) {
        if (!isTenant(t)) return BAD;
        for (int set : sets(tenants.size())) {
            boolean[] know = new boolean[6];
            ArrayDeque<Integer> queue = new ArrayDeque<>();
            know[t] = true;
            queue.add(t);
            int many = 1;
            while (!queue.isEmpty()) {
                int a = queue.remove();
                if (!has(set, a)) continue;
                for (int b = 0; b < tenants.size(); b++) {
                    if (hears[b][a] && !know[b]) {
                        know[b] = true;
                        many++;
                        queue.add(b);
                    }
                }
            }
            if (many == tenants.size()) return set;
        }
        return NONE;
    }

    int rounds(int t) {
        if (!isTenant(t)) return BAD;
        int[] way = new int[tenants.size()];
        Arrays.fill(way, 1000);
        way[t] = 0;
        for (int again = 0; again < 10; again++) {
            for (int a = 0; a < way.length; a++) {
                for (int b = 0; b < way.length; b++) if (hears[b][a]) way[b] = Math.min(way[b], way[a] + 1);
            }
        }
        int far = Arrays.stream(way).max().getAsInt();
        return far >= 1000 ? NONE : far;
    }

    int watch(int some) {
        if (some < 0 || some >= 1 << tenants.size()) return BAD;
        for (int set : sets(chairs.size())) {
            boolean all = true;
            for (int t = 0; t < tenants.size(); t++) {
                boolean seen = false;
                for (int c = 0; c < chairs.size(); c++) seen |= has(set, c) && has(chairs.get(c), t);
                all &= seen || !has(some, t);
            }
            if (all) return set;
        }
        return NONE;
    }

    long odds(int x, int what) {
        if (x < 0 || x > 10 || what < 0 || what > 1) return BAD;
        List<Integer> dwellers = new ArrayList<>();
        for (int t = 0; t < tenants.size(); t++) if (state.home[t] != NONE) dwellers.add(t);
        long upper = 0;
        for (int set = 0; set < 1 << dwellers.size(); set++) {
            long weight = 1;
            boolean met = true;
            for (int i = 0; i < dwellers.size(); i++) {
                int t = dwellers.get(i);
                weight *= has(set, i) ? x : 10 - x;
                int said = must(t) + (has(set, i) ? 2 : 0);
                met &= free(t) - said >= prices.get(state.home[t]);
            }
            if (met) upper += weight;
        }
        BigInteger a = BigInteger.valueOf(upper);
        BigInteger b = BigInteger.TEN.pow(dwellers.size());
        return (what == 0 ? a : b).divide(a.gcd(b)).longValue();
    }

    int book(int t, int lacks) {
        if (!isTenant(t) || lacks < 0 || lacks > 24) return BAD;
        if (book.size() == 6) return FULL;
        book.add(new int[] {t, lacks});
        return book.size();
    }

    int burn() {
        int n = book.size();
        book.clear();
        return n;
    }

    private void fitting(int t, int[] way, List<int[]> found) {
        if (t == tenants.size()) {
            for (int[] line : book) {
                int lack = prices.get(way[line[0]]) - (free(line[0]) - must(line[0]));
                if ((lack < 0 ? 0 : lack) != line[1]) return;
            }
            found.add(way.clone());
            return;
        }
        for (int r = 0; r < prices.size(); r++) {
            boolean taken = false;
            for (int i = 0; i < t; i++) taken |= way[i] == r;
            if (taken) continue;
            way[t] = r;
            fitting(t + 1, way, found);
        }
    }

    private List<int[]> ways() {
        List<int[]> found = new ArrayList<>();
        fitting(0, new int[tenants.size()], found);
        return found;
    }

    int fits(int t) {
        if (t != -1 && !isTenant(t)) return BAD;
        List<int[]> ways = ways();
        if (t == -1) return ways.size();
        return ways.isEmpty() ? NONE : ways.get(0)[t];
    }

    int may(int t) {
        if (!isTenant(t)) return BAD;
        int bits = 0;
        for (int[] way : ways()) bits |= 1 << way[t];
        return bits;
    }

    private static class Tenant {
        int mark(Model m, int t) {
            m.trace += 1;
            return m.state.debt[t];
        }
    }

    private static class Talker extends Tenant {
        @Override int mark(Model m, int t) {
            m.trace += 10;
            return super.mark(m, t) + m.tenants.get(t)[1];
        }
    }

    private static class Mute extends Tenant {
        @Override int mark(Model m, int t) {
            m.trace += 100;
            return super.mark(m, t) - m.tenants.get(t)[2];
        }
    }

    private static class Whistler extends Talker {
        @Override int mark(Model m, int t) {
            m.trace += 1000;
            return super.mark(m, t) * 2;
        }
    }

    private static class Hired extends Mute {
        @Override int mark(Model m, int t) {
            m.trace += 10000;
            return super.mark(m, t) + m.tenants.get(t)[3];
        }
    }

    private static class Lawyer extends Tenant {
        @Override int mark(Model m, int t) {
            m.trace += 100000;
            return super.mark(m, t) + m.state.day;
        }
    }

    private static final Tenant[] KINDS = {new Tenant(), new Talker(), new Mute(), new Whistler(), new Hired(), new Lawyer()};

    int mark(int kind, int t) {
        if (kind < 0 || kind > 5 || !isTenant(t)) return NO;
        return KINDS[kind].mark(this, t);
    }

    int keep(int image) {
        if (image != 0 && image != 1) return BAD;
        images.put(image, new Object[] {state.copy(), copies(past)});
        return state.day;
    }

    private static ArrayDeque<State> copies(ArrayDeque<State> states) {
        ArrayDeque<State> all = new ArrayDeque<>();
        for (State s : states) all.addLast(s.copy());
        return all;
    }

    @SuppressWarnings("unchecked")
    int back(int image) {
        if (image != 0 && image != 1) return BAD;
        if (!images.containsKey(image)) return STATE;
        state = ((State) images.get(image)[0]).copy();
        past = copies((ArrayDeque<State>) images.get(image)[1]);
        return state.day;
    }

    int count(int what) {
        switch (what) {
            case 0: return prices.size();
            case 1: return tenants.size();
            case 2: return chairs.size();
            case 3: return book.size();
            case 4: return past.size();
            case 5: return text.length();
            default: return BAD;
        }
    }

    long trace() {
        return trace;
    }
}

import java.util.Arrays;

/** A house in which rooms are paid for by hours of silence: see README.md and ../shared/DOC.md. */
public final class SilentRent {
    public static final int BAD = -1, STATE = -2, FULL = -3, NONE = -9;
    public static final int NO = -1000000;

    private static final int MOST_ROOMS = 6;
    private static final int MOST_TENANTS = 6;
    private static final int MOST_CHAIRS = 5;
    private static final int MOST_TEXT = 200;
    private static final int MOST_LINES = 6;
    private static final int MOST_UNDONE = 10;
    private static final int MOST_DEBT = 9999;
    private static final int LAST_DAY = 99;
    private static final int HOURS = 24;
    private static final int IMAGES = 2;
    private static final int SETS = 64;
    private static final int FAULT = -10;

    private final Text text = new Text();
    private House built = new House();
    // A text is read into this one, so that a fault leaves what is built as it was.
    private House draft = new House();
    private final Now now = new Now();
    private final Past past = new Past();
    private final Image[] images = new Image[IMAGES];
    private final Book lines = new Book();
    private final Housing housing = new Housing();
    private final Fitting fitting = new Fitting();
    private final int[] groups = new int[SETS];
    private long asked;

    public SilentRent() {
        for (int i = 0; i < IMAGES; i++) {
            images[i] = new Image();
        }
    }

    // ---- the house

    public int type(int c) {
        if (c < 0 || c > 255) {
            return BAD;
        }
        if (text.length >= MOST_TEXT) {
            return FULL;
        }
        text.bytes[text.length] = c;
        text.length++;
        return text.length;
    }

    public int clear() {
        int had = text.length;
        text.length = 0;
        return had;
    }

    public int house() {
        int items = text.readInto(draft);
        if (items < 0) {
            return items;
        }
        House older = built;
        built = draft;
        draft = older;
        text.length = 0;
        now.begin();
        past.known = 0;
        lines.length = 0;
        for (int i = 0; i < IMAGES; i++) {
            images[i].kept = false;
        }
        return items;
    }

    public int room(int r, int what) {
        if (!built.hasRoom(r)) {
            return BAD;
        }
        switch (what) {
            case 0: return built.price[r];
            case 1: return now.dweller(r);
            case 2: return built.whoMeets(r);
            default: return BAD;
        }
    }

    public int tenant(int t, int what) {
        if (!built.hasTenant(t)) {
            return BAD;
        }
        switch (what) {
            case 0: return built.sleep[t];
            case 1: return built.must[t];
            case 2: return built.wits[t];
            case 3: return built.asks[t];
            case 4: return now.home[t];
            case 5: return now.talked[t];
            case 6: return now.pays[t];
            case 7: return now.debt[t];
            case 8: return silentHours(t);
            case 9: return built.hears[t];
            default: return BAD;
        }
    }

    public int chair(int c) {
        if (!built.hasChair(c)) {
            return BAD;
        }
        return built.lips[c] & built.everybody();
    }

    // ---- days

    public int moves(int t, int r) {
        if (!built.hasTenant(t) || (r != -1 && !built.hasRoom(r))) {
            return BAD;
        }
        int till = now.home[t];
        int next = r == -1 ? NONE : r;
        if (till == next || (r != -1 && now.dweller(r) != NONE)) {
            return STATE;
        }
        past.push(now);
        now.home[t] = next;
        return till;
    }

    public int talks(int t, int h, int payer) {
        if (!built.hasTenant(t) || h < 1 || h > HOURS || !built.hasTenant(payer)) {
            return BAD;
        }
        boolean tooMuch = now.talked[t] + h > built.freeHours(t);
        boolean outwitted = payer == t || built.wits[payer] > built.wits[t];
        if (tooMuch || !outwitted) {
            return STATE;
        }
        past.push(now);
        now.talked[t] += h;
        now.pays[payer] += h;
        return now.talked[t];
    }

    public int evening() {
        if (now.day >= LAST_DAY) {
            return STATE;
        }
        past.push(now);
        for (int t = 0; t < built.tenants; t++) {
            if (built.hasRoom(now.home[t])) {
                int lacking = built.price[now.home[t]] - silentHours(t);
                now.debt[t] = Math.max(0, Math.min(MOST_DEBT, now.debt[t] + lacking));
            }
        }
        Arrays.fill(now.talked, 0);
        Arrays.fill(now.pays, 0);
        now.day++;
        return now.allDebts();
    }

    public int lends(int lender, int t, int h) {
        if (!built.hasTenant(lender) || !built.hasTenant(t) || lender == t || h < 1 || h > 99) {
            return BAD;
        }
        if (now.debt[t] < h || now.debt[lender] + h > MOST_DEBT) {
            return STATE;
        }
        past.push(now);
        now.debt[t] -= h;
        now.debt[lender] += h;
        return now.debt[lender];
    }

    public int undo() {
        if (past.known == 0) {
            return STATE;
        }
        past.pop(now);
        return past.known;
    }

    public int now(int what) {
        switch (what) {
            case 0: return now.day;
            case 1: return now.allDebts();
            case 2: return dwellers();
            case 3: return emptyRooms();
            case 4: return lackingDwellers();
            default: return BAD;
        }
    }

    private int silentHours(int t) {
        return Math.max(0, built.freeHours(t) - now.pays[t]);
    }

    private int dwellers() {
        int bits = 0;
        for (int t = 0; t < built.tenants; t++) {
            if (now.home[t] != NONE) {
                bits |= 1 << t;
            }
        }
        return bits;
    }

    private int emptyRooms() {
        int bits = 0;
        for (int r = 0; r < built.rooms; r++) {
            if (now.dweller(r) == NONE) {
                bits |= 1 << r;
            }
        }
        return bits;
    }

    private int lackingDwellers() {
        int bits = 0;
        for (int t = 0; t < built.tenants; t++) {
            if (spareHours(t) < 0) {
                bits |= 1 << t;
            }
        }
        return bits;
    }

    // ---- rooms

    public int housed(int t) {
        if (t < -2 || t >= built.tenants) {
            return BAD;
        }
        housing.solve(built);
        switch (t) {
            case -1: return housing.howMany(built);
            case -2: return housing.prices(built);
            default: return housing.home[t];
        }
    }

    public int crowd() {
        int least = NONE;
        int fewest = MOST_TENANTS + 1;
        for (int set = 1; set <= built.everybody(); set++) {
            int many = Integer.bitCount(set);
            if (many < fewest && Integer.bitCount(built.roomsMetBy(set)) < many) {
                least = set;
                fewest = many;
            }
        }
        return least;
    }

    // ---- hours, debts

    public int spare(int t) {
        return built.hasTenant(t) ? spareHours(t) : NO;
    }

    public int rest(int what) {
        if (what < 0 || what > 1) {
            return BAD;
        }
        int p = 0;
        while (p < 10 && hoursForSale(p) < hoursBought(p)) {
            p++;
        }
        return what == 0 ? p : hoursBought(p);
    }

    public int payments() {
        int owing = 0;
        for (int t = 0; t < built.tenants; t++) {
            if (lackingShare(t) != 0) {
                owing |= 1 << t;
            }
        }
        return Integer.bitCount(owing) - mostGroups(owing);
    }

    public int settled(int t) {
        return built.hasTenant(t) ? lackingShare(t) : NO;
    }

    private int spareHours(int t) {
        int r = now.home[t];
        return built.hasRoom(r) ? built.keepsSilent(t) - built.price[r] : 0;
    }

    private int hoursForSale(int p) {
        int hours = 0;
        for (int t = 0; t < built.tenants; t++) {
            if (built.asks[t] <= p) {
                hours += Math.max(0, spareHours(t));
            }
        }
        return hours;
    }

    private int hoursBought(int p) {
        int hours = 0;
        for (int t = 0; t < built.tenants; t++) {
            if (built.asks[t] >= p) {
                hours += Math.max(0, -spareHours(t));
            }
        }
        return hours;
    }

    private int lackingShare(int t) {
        int all = now.allDebts();
        int many = built.tenants;
        if (many == 0) {
            return 0;
        }
        int share = all / many + (t < all % many ? 1 : 0);
        return share - now.debt[t];
    }

    // A set that comes to 0 as a whole has one group more than the best of those that lack one of its tenants.
    private int mostGroups(int owing) {
        groups[0] = 0;
        for (int set = 1; set <= owing; set++) {
            int most = 0;
            int lacking = 0;
            for (int t = 0; t < built.tenants; t++) {
                if ((set >> t & 1) != 0) {
                    most = Math.max(most, groups[set ^ 1 << t]);
                    lacking += lackingShare(t);
                }
            }
            groups[set] = lacking == 0 ? most + 1 : most;
        }
        return groups[owing];
    }

    // ---- messages, chairs, odds

    public int told(int t) {
        if (!built.hasTenant(t)) {
            return BAD;
        }
        int least = NONE;
        int fewest = MOST_TENANTS + 1;
        for (int set = 0; set <= built.everybody(); set++) {
            int many = Integer.bitCount(set);
            if (many < fewest && allKnow(t, set)) {
                least = set;
                fewest = many;
            }
        }
        return least;
    }

    public int rounds(int t) {
        if (!built.hasTenant(t)) {
            return BAD;
        }
        int know = 1 << t;
        for (int round = 0; round < built.tenants; round++) {
            if (know == built.everybody()) {
                return round;
            }
            know |= built.hearers(know);
        }
        return NONE;
    }

    public int watch(int some) {
        if (some < 0 || some > built.everybody()) {
            return BAD;
        }
        int least = NONE;
        int fewest = MOST_CHAIRS + 1;
        for (int set = 0; set < 1 << built.chairs; set++) {
            int many = Integer.bitCount(set);
            if (many < fewest && (some & ~built.seenFrom(set)) == 0) {
                least = set;
                fewest = many;
            }
        }
        return least;
    }

    public long odds(int x, int what) {
        if (x < 0 || x > 10 || what < 0 || what > 1) {
            return BAD;
        }
        long upper = 1;
        long lower = 1;
        for (int t = 0; t < built.tenants; t++) {
            if (now.home[t] != NONE && spareHours(t) < 2) {
                upper *= spareHours(t) < 0 ? 0 : 10 - x;
                lower *= 10;
            }
        }
        long common = commonDivisor(upper, lower);
        if (common == 0) {
            return BAD;
        }
        return what == 0 ? upper / common : lower / common;
    }

    private boolean allKnow(int t, int tellers) {
        int know = 1 << t;
        for (int round = 0; round < built.tenants; round++) {
            know |= built.hearers(know & tellers);
        }
        return know == built.everybody();
    }

    private static long commonDivisor(long a, long b) {
        // A hundred steps are far more than numbers up to a million need.
        for (int step = 0; step < 100 && b != 0; step++) {
            long remains = a % b;
            a = b;
            b = remains;
        }
        return a;
    }

    // ---- the book

    public int book(int t, int lacks) {
        if (!built.hasTenant(t) || lacks < 0 || lacks > HOURS) {
            return BAD;
        }
        if (lines.length >= MOST_LINES) {
            return FULL;
        }
        lines.who[lines.length] = t;
        lines.lacks[lines.length] = lacks;
        lines.length++;
        return lines.length;
    }

    public int burn() {
        int had = lines.length;
        lines.length = 0;
        return had;
    }

    public int fits(int t) {
        if (t < -1 || t >= built.tenants) {
            return BAD;
        }
        fitting.solve(built, lines);
        return t == -1 ? fitting.ways[0] : fitting.firstRoom(t);
    }

    public int may(int t) {
        if (!built.hasTenant(t)) {
            return BAD;
        }
        fitting.solve(built, lines);
        return fitting.someRooms(t);
    }

    // ---- kinds, images

    public int mark(int kind, int t) {
        if (!built.hasTenant(t)) {
            return NO;
        }
        switch (kind) {
            case 0: return markTenant(t);
            case 1: return markTalker(t);
            case 2: return markMute(t);
            case 3: return markWhistler(t);
            case 4: return markHired(t);
            case 5: return markLawyer(t);
            default: return NO;
        }
    }

    public int keep(int image) {
        if (image < 0 || image >= IMAGES) {
            return BAD;
        }
        Image kept = images[image];
        kept.kept = true;
        kept.now.copyFrom(now);
        kept.past.copyFrom(past);
        return now.day;
    }

    public int back(int image) {
        if (image < 0 || image >= IMAGES) {
            return BAD;
        }
        Image kept = images[image];
        if (!kept.kept) {
            return STATE;
        }
        now.copyFrom(kept.now);
        past.copyFrom(kept.past);
        return now.day;
    }

    public int count(int what) {
        switch (what) {
            case 0: return built.rooms;
            case 1: return built.tenants;
            case 2: return built.chairs;
            case 3: return lines.length;
            case 4: return past.known;
            case 5: return text.length;
            default: return BAD;
        }
    }

    public long trace() {
        return asked;
    }

    private int markTenant(int t) {
        asked += 1;
        return now.debt[t];
    }

    private int markTalker(int t) {
        asked += 10;
        return markTenant(t) + built.must[t];
    }

    private int markMute(int t) {
        asked += 100;
        return markTenant(t) - built.wits[t];
    }

    private int markWhistler(int t) {
        asked += 1000;
        return markTalker(t) * 2;
    }

    private int markHired(int t) {
        asked += 10000;
        return markMute(t) + built.asks[t];
    }

    private int markLawyer(int t) {
        asked += 100000;
        return markTenant(t) + now.day;
    }

    /** What a text tells: rooms, tenants, who hears whom, chairs. */
    private static final class House {
        int rooms;
        int tenants;
        int chairs;
        final int[] price = new int[MOST_ROOMS];
        final int[] sleep = new int[MOST_TENANTS];
        final int[] must = new int[MOST_TENANTS];
        final int[] wits = new int[MOST_TENANTS];
        final int[] asks = new int[MOST_TENANTS];
        final int[] hears = new int[MOST_TENANTS];
        final int[] lips = new int[MOST_CHAIRS];

        boolean hasRoom(int r) {
            return r >= 0 && r < rooms;
        }

        boolean hasTenant(int t) {
            return t >= 0 && t < tenants;
        }

        boolean hasChair(int c) {
            return c >= 0 && c < chairs;
        }

        int everybody() {
            return (1 << tenants) - 1;
        }

        int freeHours(int t) {
            return HOURS - sleep[t];
        }

        int keepsSilent(int t) {
            return freeHours(t) - must[t];
        }

        boolean meets(int t, int r) {
            return keepsSilent(t) >= price[r];
        }

        int whoMeets(int r) {
            int bits = 0;
            for (int t = 0; t < tenants; t++) {
                if (meets(t, r)) {
                    bits |= 1 << t;
                }
            }
            return bits;
        }

        int roomsMetBy(int set) {
            int bits = 0;
            for (int r = 0; r < rooms; r++) {
                if ((whoMeets(r) & set) != 0) {
                    bits |= 1 << r;
                }
            }
            return bits;
        }

        int hearers(int tellers) {
            int bits = 0;
            for (int t = 0; t < tenants; t++) {
                if ((hears[t] & tellers) != 0) {
                    bits |= 1 << t;
                }
            }
            return bits;
        }

        int seenFrom(int set) {
            int bits = 0;
            for (int c = 0; c < chairs; c++) {
                if ((set >> c & 1) != 0) {
                    bits |= lips[c];
                }
            }
            return bits;
        }
    }

    /** The text and its reader: a token at a time, so that the first fault is where the reading stands. */
    private static final class Text {
        private static final int END = 0, LETTERS = 1, NUMBER = 2, SEMICOLON = 3, WRONG = 4;

        final int[] bytes = new int[MOST_TEXT];
        int length;
        private int next;
        private int start;
        private int token;
        private int value;

        /** How many items; or FAULT less the place of the token that can't stand there. */
        int readInto(House house) {
            house.rooms = 0;
            house.tenants = 0;
            house.chairs = 0;
            next = 0;
            for (int items = 0; items <= length; items++) {
                step();
                if (token == END) {
                    return items;
                }
                if (!readItem(house)) {
                    break;
                }
            }
            return FAULT - start;
        }

        private boolean readItem(House house) {
            if (token != LETTERS) {
                return false;
            }
            switch (value) {
                case 'r': return readRoom(house) && semicolon();
                case 't': return readTenant(house) && semicolon();
                case 'h': return readHearing(house) && semicolon();
                case 'c': return readChair(house) && semicolon();
                default: return false;
            }
        }

        private boolean readRoom(House house) {
            int r = house.rooms;
            if (r >= MOST_ROOMS || !number(0, 24)) {
                return false;
            }
            house.price[r] = value;
            house.rooms = r + 1;
            return true;
        }

        private boolean readTenant(House house) {
            int t = house.tenants;
            if (t >= MOST_TENANTS || !number(0, 12)) {
                return false;
            }
            house.sleep[t] = value;
            if (!number(0, 12)) {
                return false;
            }
            house.must[t] = value;
            if (!number(0, 9)) {
                return false;
            }
            house.wits[t] = value;
            if (!number(1, 9)) {
                return false;
            }
            house.asks[t] = value;
            house.hears[t] = 0;
            house.tenants = t + 1;
            return true;
        }

        private boolean readHearing(House house) {
            if (!number(0, house.tenants - 1)) {
                return false;
            }
            int hearer = value;
            if (!number(0, house.tenants - 1) || value == hearer) {
                return false;
            }
            house.hears[hearer] |= 1 << value;
            return true;
        }

        private boolean readChair(House house) {
            int c = house.chairs;
            if (c >= MOST_CHAIRS || !number(0, 63)) {
                return false;
            }
            house.lips[c] = value;
            house.chairs = c + 1;
            return true;
        }

        private boolean number(int least, int most) {
            step();
            return token == NUMBER && value >= least && value <= most;
        }

        private boolean semicolon() {
            step();
            return token == SEMICOLON;
        }

        private void step() {
            while (next < length && bytes[next] == ' ') {
                next++;
            }
            start = next;
            if (next >= length) {
                token = END;
                return;
            }
            token = kindOf(bytes[next]);
            next++;
            while (next < length && (token == LETTERS || token == NUMBER) && kindOf(bytes[next]) == token) {
                next++;
            }
            if (token == LETTERS) {
                // Every item begins with one letter alone: letters side by side have no value.
                value = next - start == 1 ? bytes[start] : 0;
            } else if (token == NUMBER) {
                takeDigits();
            }
        }

        // Three digits are above 99 or led by a 0; two are wrong only if led by one.
        private void takeDigits() {
            int digits = next - start;
            if (digits > 2 || (digits == 2 && bytes[start] == '0')) {
                token = WRONG;
                return;
            }
            value = bytes[start] - '0';
            if (digits == 2) {
                value = value * 10 + bytes[start + 1] - '0';
            }
        }

        private static int kindOf(int c) {
            if (c >= 'a' && c <= 'z') {
                return LETTERS;
            }
            if (c >= '0' && c <= '9') {
                return NUMBER;
            }
            return c == ';' ? SEMICOLON : WRONG;
        }
    }

    /** All that moves, talks, evenings and loans change. */
    private static final class Now {
        int day;
        final int[] home = new int[MOST_TENANTS];
        final int[] talked = new int[MOST_TENANTS];
        final int[] pays = new int[MOST_TENANTS];
        final int[] debt = new int[MOST_TENANTS];

        Now() {
            Arrays.fill(home, NONE);
        }

        void begin() {
            day = 0;
            Arrays.fill(home, NONE);
            Arrays.fill(talked, 0);
            Arrays.fill(pays, 0);
            Arrays.fill(debt, 0);
        }

        void copyFrom(Now other) {
            day = other.day;
            System.arraycopy(other.home, 0, home, 0, MOST_TENANTS);
            System.arraycopy(other.talked, 0, talked, 0, MOST_TENANTS);
            System.arraycopy(other.pays, 0, pays, 0, MOST_TENANTS);
            System.arraycopy(other.debt, 0, debt, 0, MOST_TENANTS);
        }

        int dweller(int r) {
            for (int t = 0; t < MOST_TENANTS; t++) {
                if (home[t] == r) {
                    return t;
                }
            }
            return NONE;
        }

        int allDebts() {
            int all = 0;
            for (int t = 0; t < MOST_TENANTS; t++) {
                all += debt[t];
            }
            return all;
        }
    }

    /** What may be undone: how all was ahead of each of the latest changes, the oldest first. */
    private static final class Past {
        int known;
        private final Now[] steps = new Now[MOST_UNDONE];

        Past() {
            for (int i = 0; i < MOST_UNDONE; i++) {
                steps[i] = new Now();
            }
        }

        void push(Now now) {
            if (known >= MOST_UNDONE) {
                loseOldest();
            }
            steps[known].copyFrom(now);
            known++;
        }

        void pop(Now now) {
            if (known > 0) {
                known--;
                now.copyFrom(steps[known]);
            }
        }

        void copyFrom(Past other) {
            known = other.known;
            for (int i = 0; i < known; i++) {
                steps[i].copyFrom(other.steps[i]);
            }
        }

        // The lost step's object becomes the newest one's: no change makes an object.
        private void loseOldest() {
            Now oldest = steps[0];
            for (int i = 1; i < MOST_UNDONE; i++) {
                steps[i - 1] = steps[i];
            }
            steps[MOST_UNDONE - 1] = oldest;
            known = MOST_UNDONE - 1;
        }
    }

    /** Now and what may be undone, as kept. */
    private static final class Image {
        boolean kept;
        final Now now = new Now();
        final Past past = new Past();
    }

    /** What was lacked by those who said just what they must. */
    private static final class Book {
        int length;
        final int[] who = new int[MOST_LINES];
        final int[] lacks = new int[MOST_LINES];

        int roomsThatAgree(House house, int t) {
            int bits = 0;
            for (int r = 0; r < house.rooms; r++) {
                if (agrees(t, Math.max(0, house.price[r] - house.keepsSilent(t)))) {
                    bits |= 1 << r;
                }
            }
            return bits;
        }

        private boolean agrees(int t, int lacking) {
            for (int i = 0; i < length; i++) {
                if (who[i] == t && lacks[i] != lacking) {
                    return false;
                }
            }
            return true;
        }
    }

    /** The best way in which tenants have rooms that they meet. */
    private static final class Housing {
        // One tenant more outweighs the prices of all rooms.
        private static final int ONE_MORE = 1000;

        final int[] home = new int[MOST_TENANTS];
        // best[t][taken]: the most that tenants t and above add where those rooms are taken.
        private final int[][] best = new int[MOST_TENANTS + 1][SETS];

        void solve(House house) {
            Arrays.fill(best[house.tenants], 0);
            for (int t = house.tenants - 1; t >= 0; t--) {
                for (int taken = 0; taken < 1 << house.rooms; taken++) {
                    best[t][taken] = mostFrom(house, t, taken);
                }
            }
            int taken = 0;
            for (int t = 0; t < house.tenants; t++) {
                home[t] = firstOfBest(house, t, taken);
                if (home[t] != NONE) {
                    taken |= 1 << home[t];
                }
            }
        }

        int howMany(House house) {
            int many = 0;
            for (int t = 0; t < house.tenants; t++) {
                if (home[t] != NONE) {
                    many++;
                }
            }
            return many;
        }

        int prices(House house) {
            int all = 0;
            for (int t = 0; t < house.tenants; t++) {
                if (house.hasRoom(home[t])) {
                    all += house.price[home[t]];
                }
            }
            return all;
        }

        private int mostFrom(House house, int t, int taken) {
            int most = best[t + 1][taken];
            for (int r = 0; r < house.rooms; r++) {
                if (canTake(house, t, r, taken)) {
                    most = Math.max(most, withRoom(house, t, r, taken));
                }
            }
            return most;
        }

        private int firstOfBest(House house, int t, int taken) {
            for (int r = 0; r < house.rooms; r++) {
                if (canTake(house, t, r, taken) && withRoom(house, t, r, taken) == best[t][taken]) {
                    return r;
                }
            }
            return NONE;
        }

        private boolean canTake(House house, int t, int r, int taken) {
            return (taken >> r & 1) == 0 && house.meets(t, r);
        }

        private int withRoom(House house, int t, int r, int taken) {
            return best[t + 1][taken | 1 << r] + ONE_MORE + house.price[r];
        }
    }

    /** All ways in which tenants have rooms as the book has it; tenants take rooms in their order. */
    private static final class Fitting {
        // ways[taken]: in how many ways the tenants that are left can go on where those rooms are taken.
        final int[] ways = new int[SETS];
        private final boolean[] reached = new boolean[SETS];
        private final int[] open = new int[MOST_TENANTS];
        private int rooms;

        void solve(House house, Book lines) {
            rooms = house.rooms;
            for (int t = 0; t < house.tenants; t++) {
                open[t] = lines.roomsThatAgree(house, t);
            }
            for (int taken = (1 << rooms) - 1; taken >= 0; taken--) {
                int t = Integer.bitCount(taken);
                // All have a room where t is no tenant any more: that is one way.
                ways[taken] = t < house.tenants ? waysOn(t, taken) : 1;
                reached[taken] = taken == 0;
            }
            for (int taken = 0; taken < 1 << rooms; taken++) {
                int t = Integer.bitCount(taken);
                if (reached[taken] && t < house.tenants) {
                    reachFrom(t, taken);
                }
            }
        }

        int firstRoom(int t) {
            int taken = 0;
            for (int i = 0; i < t; i++) {
                int r = firstFrom(i, taken);
                if (r == NONE) {
                    return NONE;
                }
                taken |= 1 << r;
            }
            return firstFrom(t, taken);
        }

        int someRooms(int t) {
            int bits = 0;
            for (int taken = 0; taken < 1 << rooms; taken++) {
                if (reached[taken] && Integer.bitCount(taken) == t) {
                    bits |= goodRooms(t, taken);
                }
            }
            return bits;
        }

        private int waysOn(int t, int taken) {
            int many = 0;
            for (int r = 0; r < rooms; r++) {
                if (((open[t] & ~taken) >> r & 1) != 0) {
                    many += ways[taken | 1 << r];
                }
            }
            return many;
        }

        private void reachFrom(int t, int taken) {
            for (int r = 0; r < rooms; r++) {
                if (((open[t] & ~taken) >> r & 1) != 0) {
                    reached[taken | 1 << r] = true;
                }
            }
        }

        private int goodRooms(int t, int taken) {
            int bits = 0;
            for (int r = 0; r < rooms; r++) {
                if (((open[t] & ~taken) >> r & 1) != 0 && ways[taken | 1 << r] > 0) {
                    bits |= 1 << r;
                }
            }
            return bits;
        }

        private int firstFrom(int t, int taken) {
            int good = goodRooms(t, taken);
            for (int r = 0; r < rooms; r++) {
                if ((good >> r & 1) != 0) {
                    return r;
                }
            }
            return NONE;
        }
    }
}

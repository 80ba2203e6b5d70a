import java.util.ArrayList;
import java.util.List;

/** Of every call every number just outside, far outside or wrapped around: refused ahead of all else, and nothing changes. */
public final class RefusalsTest {
    private static final int BAD = SilentRent.BAD, NO = SilentRent.NO;
    private static final Due due = new Due("RefusalsTest");
    private static final Twins twins = new Twins(due);

    private interface Asked {
        long on(SilentRent x, int[] numbers);
    }

    private static Twins.Story ahead;
    private static String name;
    private static int rooms;
    private static int tenants;
    private static int chairs;

    public static void main(String[] args) {
        house("nothing", Stories.NOTHING, 0, 0, 0);
        house("told", Stories.TOLD, 4, 4, 3);
        house("busy", Stories.BUSY, 4, 4, 3);
        house("at its limits", Stories.AT_ITS_LIMITS, 6, 6, 5);
        house("a full text", Stories.FULL_TEXT, 0, 0, 0);
        due.end();
    }

    private static void house(String story, Twins.Story told, int r, int t, int c) {
        name = story;
        ahead = told;
        rooms = r;
        tenants = t;
        chairs = c;
        everyCall();
    }

    private static int[] to(int least, int most) {
        return new int[] {least, most};
    }

    private static void everyCall() {
        int[] room = to(0, rooms - 1);
        int[] tenant = to(0, tenants - 1);
        refused(2, "type", BAD, (x, n) -> x.type(n[0]), to(0, 255));
        refused(5, "room", BAD, (x, n) -> x.room(n[0], n[1]), room, to(0, 2));
        refused(6, "tenant", BAD, (x, n) -> x.tenant(n[0], n[1]), tenant, to(0, 9));
        refused(7, "chair", BAD, (x, n) -> x.chair(n[0]), to(0, chairs - 1));
        refused(8, "moves", BAD, (x, n) -> x.moves(n[0], n[1]), tenant, to(-1, rooms - 1));
        refused(9, "talks", BAD, (x, n) -> x.talks(n[0], n[1], n[2]), tenant, to(1, 24), tenant);
        refused(11, "lends", BAD, (x, n) -> x.lends(n[0], n[1], n[2]), tenant, tenant, to(1, 99));
        refused(13, "now", BAD, (x, n) -> x.now(n[0]), to(0, 4));
        refused(14, "housed", BAD, (x, n) -> x.housed(n[0]), to(-2, tenants - 1));
        refused(16, "spare", NO, (x, n) -> x.spare(n[0]), tenant);
        refused(17, "rest", BAD, (x, n) -> x.rest(n[0]), to(0, 1));
        refused(19, "settled", NO, (x, n) -> x.settled(n[0]), tenant);
        refused(20, "told", BAD, (x, n) -> x.told(n[0]), tenant);
        refused(21, "rounds", BAD, (x, n) -> x.rounds(n[0]), tenant);
        refused(22, "watch", BAD, (x, n) -> x.watch(n[0]), to(0, (1 << tenants) - 1));
        refused(23, "odds", BAD, (x, n) -> x.odds(n[0], n[1]), to(0, 10), to(0, 1));
        refused(24, "book", BAD, (x, n) -> x.book(n[0], n[1]), tenant, to(0, 24));
        refused(26, "fits", BAD, (x, n) -> x.fits(n[0]), to(-1, tenants - 1));
        refused(27, "may", BAD, (x, n) -> x.may(n[0]), tenant);
        refused(28, "mark", NO, (x, n) -> x.mark(n[0], n[1]), to(0, 5), tenant);
        refused(29, "keep", BAD, (x, n) -> x.keep(n[0]), to(0, 1));
        refused(30, "back", BAD, (x, n) -> x.back(n[0]), to(0, 1));
        refused(31, "count", BAD, (x, n) -> x.count(n[0]), to(0, 5));
    }

    private static void refused(int promise, String call, int answer, Asked asked, int[]... ranges) {
        due.of(promise, "Refused, and nothing changes, the first of these: BAD (a number is not as told, or there is no such thing), STATE (as told), FULL.");
        for (int wrong = 0; wrong < ranges.length; wrong++) {
            List<int[]> all = withOneWrong(ranges, wrong);
            SilentRent x = new SilentRent();
            ahead.tell(x);
            for (int[] numbers : all) {
                due.is(name + ": " + told(call, numbers), asked.on(x, numbers), answer);
            }
            twins.alike(name + ": " + call + ", wrong number " + wrong, ahead, y -> {
                ahead.tell(y);
                for (int[] numbers : all) {
                    asked.on(y, numbers);
                }
            });
        }
    }

    private static String told(String call, int[] numbers) {
        StringBuilder b = new StringBuilder(call).append('(');
        for (int i = 0; i < numbers.length; i++) {
            b.append(i == 0 ? "" : ", ").append(numbers[i]);
        }
        return b.append(')').toString();
    }

    /** Each outside number at one place, with the least and with the most that may be at the others. */
    private static List<int[]> withOneWrong(int[][] ranges, int wrong) {
        List<int[]> all = new ArrayList<>();
        for (int outside : outside(ranges[wrong][0], ranges[wrong][1])) {
            for (int end = 0; end < 2; end++) {
                int[] numbers = new int[ranges.length];
                for (int i = 0; i < ranges.length; i++) {
                    numbers[i] = i == wrong ? outside : ranges[i][end];
                }
                all.add(numbers);
            }
        }
        return all;
    }

    private static List<Integer> outside(int least, int most) {
        List<Integer> all = new ArrayList<>();
        all.add(least - 1);
        all.add(most + 1);
        for (int bit : new int[] {5, 6, 8, 16, 30}) {
            all.add(least + (1 << bit));
            all.add(most - (1 << bit));
        }
        all.add(least + Integer.MIN_VALUE);
        all.add(most + Integer.MIN_VALUE);
        all.add(Integer.MAX_VALUE);
        all.add(-1);
        all.add(-9);
        all.removeIf(n -> n >= least && n <= most);
        return all;
    }
}

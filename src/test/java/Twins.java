import java.util.ArrayList;
import java.util.IdentityHashMap;
import java.util.List;
import java.util.Map;

/**
 * Two stories, told to new objects, are alike if all questions are answered alike from then on.
 * Each question is put to an object of its own, so that none of them comes near 512 calls.
 */
final class Twins {
    /** Calls on an object. */
    interface Story {
        void tell(SilentRent x);
    }

    /** A call that is looked at. */
    interface Call {
        long on(SilentRent x);
    }

    private interface Question {
        List<Long> ask(SilentRent x);
    }

    private static final int MOST_UNDONE = 10;

    private final Due due;
    private final List<Question> questions = new ArrayList<>();
    private final List<String> names = new ArrayList<>();
    private final Map<Story, List<List<Long>>> known = new IdentityHashMap<>();

    Twins(Due due) {
        this.due = due;
        add("counts, the trace", Twins::counts);
        add("rooms, chairs", Twins::rooms);
        add("tenants", x -> tenants(x, 0, 9));
        add("how it stands, who is housed, debts", Twins::sums);
        add("messages", Twins::messages);
        add("who is watched", Twins::watched);
        add("odds", Twins::odds);
        add("the book", Twins::book);
        add("marks", Twins::marks);
        add("the text", Twins::text);
        for (int many = 1; many <= MOST_UNDONE + 1; many++) {
            int times = many;
            add(many + " times undone", x -> undone(x, times));
        }
        for (int image = 0; image < 2; image++) {
            for (int many = 0; many <= MOST_UNDONE + 1; many++) {
                int which = image;
                int times = many;
                add("back to image " + image + ", " + many + " times undone", x -> back(x, which, times));
            }
        }
    }

    private void add(String name, Question question) {
        names.add(name);
        questions.add(question);
    }

    /** What a refused call answers, and that it changes nothing. */
    void refused(String what, Story ahead, Call call, long answer) {
        SilentRent x = new SilentRent();
        ahead.tell(x);
        due.is(what, call.on(x), answer);
        alike(what, ahead, y -> {
            ahead.tell(y);
            call.on(y);
        });
    }

    void alike(String what, Story one, Story other) {
        List<List<Long>> want = known.computeIfAbsent(one, this::answers);
        List<List<Long>> got = answers(other);
        for (int i = 0; i < want.size(); i++) {
            for (int k = 0; k < want.get(i).size(); k++) {
                if (!got.get(i).get(k).equals(want.get(i).get(k))) {
                    due.is(what + ", then " + names.get(i) + ", answer " + k, got.get(i).get(k), want.get(i).get(k));
                }
            }
        }
        due.is(what + ", how many questions", got.size(), questions.size());
    }

    private List<List<Long>> answers(Story story) {
        List<List<Long>> all = new ArrayList<>();
        for (Question question : questions) {
            SilentRent x = new SilentRent();
            story.tell(x);
            all.add(question.ask(x));
        }
        return all;
    }

    private static List<Long> counts(SilentRent x) {
        List<Long> all = new ArrayList<>();
        for (int what = 0; what < 6; what++) {
            all.add((long) x.count(what));
        }
        all.add(x.trace());
        return all;
    }

    private static List<Long> rooms(SilentRent x) {
        List<Long> all = new ArrayList<>();
        for (int r = 0; r < 6; r++) {
            for (int what = 0; what < 3; what++) {
                all.add((long) x.room(r, what));
            }
            all.add((long) x.chair(r));
        }
        return all;
    }

    private static List<Long> tenants(SilentRent x, int from, int to) {
        List<Long> all = new ArrayList<>();
        for (int t = 0; t < 6; t++) {
            for (int what = from; what <= to; what++) {
                all.add((long) x.tenant(t, what));
            }
        }
        return all;
    }

    private static List<Long> sums(SilentRent x) {
        List<Long> all = new ArrayList<>();
        for (int what = 0; what < 5; what++) {
            all.add((long) x.now(what));
        }
        for (int t = -2; t < 6; t++) {
            all.add((long) x.housed(t));
            all.add((long) x.spare(t));
            all.add((long) x.settled(t));
        }
        all.add((long) x.crowd());
        all.add((long) x.rest(0));
        all.add((long) x.rest(1));
        all.add((long) x.payments());
        return all;
    }

    private static List<Long> messages(SilentRent x) {
        List<Long> all = new ArrayList<>();
        for (int t = 0; t < 6; t++) {
            all.add((long) x.told(t));
            all.add((long) x.rounds(t));
        }
        return all;
    }

    private static List<Long> watched(SilentRent x) {
        List<Long> all = new ArrayList<>();
        for (int some = 0; some < 64; some++) {
            all.add((long) x.watch(some));
        }
        return all;
    }

    private static List<Long> odds(SilentRent x) {
        List<Long> all = new ArrayList<>();
        for (int in10 = 0; in10 <= 10; in10++) {
            all.add(x.odds(in10, 0));
            all.add(x.odds(in10, 1));
        }
        return all;
    }

    private static List<Long> book(SilentRent x) {
        List<Long> all = new ArrayList<>();
        for (int t = -1; t < 6; t++) {
            all.add((long) x.fits(t));
            all.add((long) x.may(t));
        }
        all.add((long) x.burn());
        return all;
    }

    private static List<Long> marks(SilentRent x) {
        List<Long> all = new ArrayList<>();
        for (int kind = 0; kind < 6; kind++) {
            for (int t = 0; t < 6; t++) {
                all.add((long) x.mark(kind, t));
                all.add(x.trace());
            }
        }
        return all;
    }

    /** What the text tells, or where its fault is. */
    private static List<Long> text(SilentRent x) {
        List<Long> all = new ArrayList<>();
        all.add((long) x.house());
        all.addAll(tenants(x, 0, 9));
        all.addAll(rooms(x));
        all.addAll(counts(x));
        return all;
    }

    private static List<Long> undone(SilentRent x, int times) {
        List<Long> all = new ArrayList<>();
        for (int i = 0; i < times; i++) {
            all.add((long) x.undo());
        }
        all.addAll(tenants(x, 4, 8));
        all.addAll(counts(x));
        all.add((long) x.now(0));
        return all;
    }

    private static List<Long> back(SilentRent x, int image, int times) {
        List<Long> all = new ArrayList<>();
        all.add((long) x.back(image));
        all.addAll(undone(x, times));
        return all;
    }
}

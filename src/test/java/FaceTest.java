import java.lang.reflect.Constructor;
import java.lang.reflect.Field;
import java.lang.reflect.Method;
import java.lang.reflect.Modifier;
import java.util.ArrayList;
import java.util.Collections;
import java.util.List;

/** The public face, as the document has it and no more; no argument makes any call throw. */
public final class FaceTest {
    private static final Due due = new Due("FaceTest");

    private static final String[] METHODS = {
        "int type(int)", "int clear()", "int house()", "int room(int,int)", "int tenant(int,int)", "int chair(int)",
        "int moves(int,int)", "int talks(int,int,int)", "int evening()", "int lends(int,int,int)", "int undo()", "int now(int)",
        "int housed(int)", "int crowd()", "int spare(int)", "int rest(int)", "int payments()", "int settled(int)",
        "int told(int)", "int rounds(int)", "int watch(int)", "long odds(int,int)",
        "int book(int,int)", "int burn()", "int fits(int)", "int may(int)",
        "int mark(int,int)", "int keep(int)", "int back(int)", "int count(int)", "long trace()"
    };

    public static void main(String[] args) throws Exception {
        constants();
        members();
        wildArguments();
        due.end();
    }

    private static void constants() {
        due.is("BAD", SilentRent.BAD, -1);
        due.is("STATE", SilentRent.STATE, -2);
        due.is("FULL", SilentRent.FULL, -3);
        due.is("NONE", SilentRent.NONE, -9);
        due.is("NO", SilentRent.NO, -1000000);
    }

    private static void yes(String what, boolean is) {
        due.is(what, is ? 1 : 0, 1);
    }

    private static void members() {
        Class<SilentRent> face = SilentRent.class;
        yes("public final", face.getModifiers() == (Modifier.PUBLIC | Modifier.FINAL));
        List<String> left = new ArrayList<>(List.of(METHODS));
        List<String> names = new ArrayList<>();
        for (String method : METHODS) {
            names.add(method.substring(method.indexOf(' ') + 1, method.indexOf('(')));
        }
        for (Method m : face.getDeclaredMethods()) {
            if (Modifier.isPublic(m.getModifiers())) {
                yes("asked for: " + signature(m), left.remove(signature(m)));
            } else {
                yes("private: " + m, Modifier.isPrivate(m.getModifiers()));
                yes("a name of its own: " + m, !names.contains(m.getName()));
            }
        }
        yes("not there: " + left, left.isEmpty());
        int publicFields = 0;
        for (Field f : face.getDeclaredFields()) {
            if (Modifier.isPublic(f.getModifiers())) {
                publicFields++;
            } else {
                yes("private: " + f, Modifier.isPrivate(f.getModifiers()));
            }
        }
        due.is("public fields", publicFields, 5);
        Constructor<?>[] constructors = face.getDeclaredConstructors();
        due.is("constructors", constructors.length, 1);
        for (Class<?> inside : face.getDeclaredClasses()) {
            yes("static, not public: " + inside, Modifier.isStatic(inside.getModifiers()) && !Modifier.isPublic(inside.getModifiers()));
        }
    }

    private static String signature(Method m) {
        List<String> types = new ArrayList<>();
        for (Class<?> c : m.getParameterTypes()) {
            types.add(c.getName());
        }
        return m.getReturnType().getName() + " " + m.getName() + "(" + String.join(",", types) + ")";
    }

    /**
     * Every method with all mixes of odd numbers, in an empty house and in a full one.
     * What they answer is looked at elsewhere: here are more calls than the document speaks of, none of which may throw.
     */
    private static void wildArguments() throws Exception {
        int[] odd = {Integer.MIN_VALUE, -1000000, -10, -9, -3, -2, -1, 0, 1, 5, 6, 7, 31, 32, 33, 63, 64, 99, 100, 255, 256, Integer.MAX_VALUE};
        String full = "r0;r5;r9;r12;r20;r24;t12 12 9 9;t0 0 0 1;t5 5 5 5;t1 2 3 4;t8 8 8 8;t0 1 9 2;h0 1;h5 0;h1 5;c63;c1;c2;c4;c8;";
        List<SilentRent> objects = new ArrayList<>();
        objects.add(new SilentRent());
        objects.add(Due.told(full));
        List<String> order = new ArrayList<>(List.of(METHODS));
        Collections.sort(order);
        for (SilentRent x : objects) {
            for (String wanted : order) {
                for (Method m : SilentRent.class.getDeclaredMethods()) {
                    if (Modifier.isPublic(m.getModifiers()) && signature(m).equals(wanted)) {
                        callAll(x, m, odd, new Object[m.getParameterCount()], 0);
                    }
                }
            }
        }
        due.is("how many objects came through it", objects.size(), 2);
    }

    private static void callAll(SilentRent x, Method m, int[] odd, Object[] args, int i) throws Exception {
        if (i == args.length) {
            m.invoke(x, args);
            return;
        }
        for (int number : odd) {
            args[i] = number;
            callAll(x, m, odd, args, i + 1);
        }
    }
}

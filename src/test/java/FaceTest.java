import java.lang.reflect.Constructor;
import java.lang.reflect.Field;
import java.lang.reflect.Method;
import java.lang.reflect.Modifier;
import java.util.ArrayList;
import java.util.List;
import java.util.TreeSet;

/** The public face as the document has it, and rule 1 of the language. */
public final class FaceTest {
    private static final String FACE = """
        int row(int, int); int lay(int, int, int); int at(int, int); int tear(int); int copy(int, int, int, int, int);
        int mean(int); int text(int, int); int put(int, int, int); int fault(int); int post(int); int house(int, int);
        int letter(int, int); int mark(int, int); int carry(int); int bribe(int); int weather(int); int day();
        int undo(int); int keep(int); int on(int); int ends(int, int, int); int bond(int); int least(int, int);
        int round(int, int); int plan(int, int, int); int rest(int, int, int); int meant(int, int);
        int kinds(int, int); int test(int, int); int sets(int); int sure(int); int duel(int);
        int odds(int, int, int); int mid(int, int); int lots(int, int); int asked(); long upper(); long lower();
        int count(int); int finding(); int findings(int); long digest();
        """;

    public static void main(String[] args) throws ReflectiveOperationException {
        methods();
        constants();
        constructor();
        inside();
        Check.finish();
    }

    private static String told(Method m) {
        List<String> types = new ArrayList<>();
        for (Class<?> type : m.getParameterTypes()) {
            types.add(type.getSimpleName());
        }
        return m.getReturnType().getSimpleName() + " " + m.getName() + "(" + String.join(", ", types) + ")";
    }

    private static void dueHolds(String what, boolean holds) {
        Check.due(what, holds ? 1 : 0, 1);
    }

    private static void methods() {
        TreeSet<String> want = new TreeSet<>();
        for (String one : FACE.split(";")) {
            if (!one.isBlank()) {
                want.add(one.strip());
            }
        }
        TreeSet<String> got = new TreeSet<>();
        TreeSet<String> names = new TreeSet<>();
        for (Method m : LetterEnds.class.getDeclaredMethods()) {
            if (Modifier.isPublic(m.getModifiers())) {
                got.add(told(m));
                names.add(m.getName());
                dueHolds(told(m) + " is no static one", !Modifier.isStatic(m.getModifiers()));
            }
        }
        dueHolds("the methods " + got + " are those of the face " + want, got.equals(want));
        for (Method m : LetterEnds.class.getDeclaredMethods()) {
            if (!Modifier.isPublic(m.getModifiers())) {
                dueHolds(m + " is private", Modifier.isPrivate(m.getModifiers()));
                dueHolds(m + " bears a name of its own", !names.contains(m.getName()));
            }
        }
    }

    private static void constants() throws ReflectiveOperationException {
        String[] names = {"BAD", "FULL", "FINDING", "STATE", "SPENT", "NONE"};
        int[] values = {-1, -2, -3, -4, -6, -9};
        for (int i = 0; i < names.length; i++) {
            Field f = LetterEnds.class.getDeclaredField(names[i]);
            dueHolds(f + " is public", Modifier.isPublic(f.getModifiers()));
            Check.due(names[i], f.getInt(null), values[i]);
        }
        int open = 0;
        for (Field f : LetterEnds.class.getDeclaredFields()) {
            open += Modifier.isPrivate(f.getModifiers()) ? 0 : 1;
            dueHolds(f + " is final, if static", !Modifier.isStatic(f.getModifiers()) || Modifier.isFinal(f.getModifiers()));
        }
        Check.due("fields that are not private", open, names.length);
    }

    private static void constructor() {
        Constructor<?>[] all = LetterEnds.class.getDeclaredConstructors();
        Check.due("constructors", all.length, 1);
        dueHolds("it is public", Modifier.isPublic(all[0].getModifiers()));
        Check.due("its parameters", all[0].getParameterCount(), 0);
        dueHolds("the class is public and final", Modifier.isPublic(LetterEnds.class.getModifiers())
            && Modifier.isFinal(LetterEnds.class.getModifiers()));
    }

    private static void inside() {
        Class<?>[] inside = LetterEnds.class.getDeclaredClasses();
        dueHolds("some twelve classes", inside.length <= 12);
        for (Class<?> one : inside) {
            dueHolds(one + " is static", Modifier.isStatic(one.getModifiers()));
            dueHolds(one + " is not open", !Modifier.isPublic(one.getModifiers()) && !Modifier.isProtected(one.getModifiers()));
            int own = 0;
            for (Field f : one.getDeclaredFields()) {
                own += Modifier.isStatic(f.getModifiers()) ? 0 : 1;
            }
            dueHolds(one + " has some twenty fields", own <= 20);
            for (Method m : one.getDeclaredMethods()) {
                dueHolds(m + " has seven parameters at most", m.getParameterCount() <= 7);
                dueHolds(m + " bears no name of the face", !FACE.contains(" " + m.getName() + "("));
            }
        }
    }
}

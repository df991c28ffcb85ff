import java.lang.reflect.InvocationTargetException;
import java.lang.reflect.Method;
import java.util.ArrayList;
import java.util.Comparator;
import java.util.List;
import java.util.Random;

/** Runs of up to 512 calls with arguments by fixed seeds, on the class and on Model: all answers are to be the same. */
public final class RandomRunsTest {
    private static final int CALLS = 512;
    private static final int[] EDGES = {Integer.MIN_VALUE, Integer.MAX_VALUE, -1, 0, 1, 20, 21, 40, 41, 54, 55, 60, 61, 63, 64};

    private final Random random;
    private final LetterEnds given = new LetterEnds();
    private final Model model = new Model();
    private final List<String> told = new ArrayList<>();
    private final List<Method> methods;
    private final List<Method> models;
    private int calls;
    private boolean wrong;

    private RandomRunsTest(long seed, List<Method> methods, List<Method> models) {
        random = new Random(seed);
        this.methods = methods;
        this.models = models;
    }

    public static void main(String[] args) throws ReflectiveOperationException {
        long runs = args.length > 0 ? Long.parseLong(args[0]) : 600;
        long from = args.length > 1 ? Long.parseLong(args[1]) : 1;
        List<Method> methods = new ArrayList<>();
        List<Method> models = new ArrayList<>();
        for (Method m : LetterEnds.class.getDeclaredMethods()) {
            if (java.lang.reflect.Modifier.isPublic(m.getModifiers())) methods.add(m);
        }
        methods.sort(Comparator.comparing(Method::getName));
        for (Method m : methods) {
            models.add(Model.class.getDeclaredMethod(m.getName(), m.getParameterTypes()));
        }
        int bad = 0;
        for (long seed = from; seed < from + runs; seed++) {
            RandomRunsTest run = new RandomRunsTest(seed, methods, models);
            run.go();
            if (run.wrong) {
                bad++;
                System.out.println("run of seed " + seed + ":");
                List<String> rows = run.told;
                rows.subList(Math.max(0, rows.size() - 12), rows.size()).forEach(System.out::println);
                if (bad >= 3) break;
            }
        }
        System.out.println(bad == 0 ? runs + " runs answered alike" : bad + " runs did not answer alike");
        if (bad != 0) System.exit(1);
    }

    private void go() throws ReflectiveOperationException {
        if (random.nextInt(8) != 0) {
            write();
            call("post", random.nextInt(10) == 0 ? 1 : 0);
        }
        while (calls < CALLS && !wrong) {
            int what = random.nextInt(100);
            if (what < 2) {
                write();
                call(random.nextBoolean() ? "post" : "fault", 0);
            } else if (what < 5) {
                letterRow();
            } else if (what < 8) {
                pairRow();
            } else if (what < 10) {
                // few deeds fill 40, so most of them are taken back
                call("undo", random.nextInt(20));
            } else {
                any();
            }
        }
    }

    private void any() throws ReflectiveOperationException {
        Method m = methods.get(random.nextInt(methods.size()));
        if (m.getName().equals("put") && random.nextInt(4) != 0) return;
        if (m.getName().equals("text") && random.nextInt(4) != 0) return;
        int[] args = new int[m.getParameterCount()];
        for (int i = 0; i < args.length; i++) {
            args[i] = argument();
        }
        if (m.getName().equals("round") && random.nextInt(4) != 0) {
            args[0] = random.nextInt(64) & ~model.count(7) & (1 << model.count(1)) - 1;
        }
        if (m.getName().equals("lots") && args.length == 2 && random.nextInt(3) != 0) {
            args[1] = 1 + random.nextInt(2147483646);
        }
        call(m.getName(), args);
    }

    private int argument() {
        int what = random.nextInt(24);
        if (what == 0) return EDGES[random.nextInt(EDGES.length)];
        if (what == 1) return random.nextInt();
        if (what == 2) return random.nextInt(64);
        if (what < 8) return random.nextInt(22);
        if (what < 12) return random.nextInt(10);
        return random.nextInt(6);
    }

    /** A text that is mostly a post; now and then a sign is spoiled or the end cut. */
    private void write() throws ReflectiveOperationException {
        StringBuilder signs = new StringBuilder();
        blanks(signs);
        signs.append('p').append(random.nextInt(10)).append(random.nextInt(3));
        int houses = 1 + random.nextInt(random.nextInt(20) == 0 ? 7 : 6);
        for (int h = 0; h < houses; h++) {
            blanks(signs);
            int bond = random.nextInt(random.nextInt(20) == 0 ? 30 : 21);
            signs.append('h').append(bond / 10).append(bond % 10);
        }
        int letters = random.nextInt(3) == 0 ? 1 + random.nextInt(6) : 4 + random.nextInt(random.nextInt(20) == 0 ? 4 : 3);
        for (int l = 0; l < letters; l++) {
            blanks(signs);
            signs.append("ltbvkf".charAt(random.nextInt(6)));
            signs.append(random.nextInt(random.nextInt(40) == 0 ? 10 : houses)).append(random.nextInt(10));
        }
        blanks(signs);
        if (random.nextInt(8) == 0) signs.setLength(random.nextInt(signs.length() + 1));
        if (random.nextInt(8) == 0 && signs.length() > 0) {
            signs.setCharAt(random.nextInt(signs.length()), "phltbvkf 0123459x".charAt(random.nextInt(17)));
        }
        if (signs.length() > 60) signs.setLength(60);
        call("text", 0, signs.length());
        for (int i = 0; i < signs.length(); i++) {
            if (signs.charAt(i) != ' ') call("put", 0, i, signs.charAt(i));
        }
        call("fault", 0);
    }

    private void blanks(StringBuilder signs) {
        while (random.nextInt(8) == 0) signs.append(' ');
    }

    private void letterRow() throws ReflectiveOperationException {
        int r = random.nextInt(6);
        List<Integer> these = new ArrayList<>();
        boolean all = random.nextInt(4) == 0;
        for (int l = 0; l < model.count(1); l++) {
            if (all || (model.count(7) >> l & 1) == 0) these.add(l);
        }
        java.util.Collections.shuffle(these, random);
        if (random.nextInt(10) == 0) these.add(random.nextInt(8) - 1);
        if (random.nextInt(3) == 0 && !these.isEmpty()) these = these.subList(0, random.nextInt(these.size()));
        fill(r, these);
        call("rest", random.nextInt(6), random.nextInt(21), r);
        call("odds", r, random.nextInt(3) == 0 ? random.nextInt(55) : 4 * these.size() + random.nextInt(12), random.nextInt(13));
        call("upper");
        call("lower");
        call("mid", r, random.nextInt(13));
        call("upper");
        call("lower");
    }

    private void pairRow() throws ReflectiveOperationException {
        int r = random.nextInt(6);
        int pairs = random.nextInt(random.nextInt(3) == 0 ? 10 : 3);
        List<Integer> values = new ArrayList<>();
        char sign = "ltbvkf".charAt(random.nextInt(6));
        int words = random.nextInt(10);
        int l = random.nextInt(6);
        for (int i = 0; i < pairs; i++) {
            int mood = random.nextInt(10);
            int warm = model.ends(l, words, mood);
            values.add(mood);
            values.add(warm < 0 || random.nextInt(8) == 0 ? sign % 10 : warm);
        }
        if (random.nextInt(12) == 0) values.add(random.nextInt(12) - 1);
        if (random.nextInt(12) == 0) values.add(random.nextInt(12) - 1);
        fill(r, values);
        for (String name : new String[] {"meant", "kinds", "test"}) {
            call(name, l, r);
        }
        call("asked");
    }

    private void fill(int r, List<Integer> values) throws ReflectiveOperationException {
        call("row", r, values.size());
        for (int i = 0; i < values.size(); i++) {
            call("lay", r, i, values.get(i));
        }
    }

    private void call(String name, int... args) throws ReflectiveOperationException {
        if (calls >= CALLS || wrong) return;
        calls++;
        int which = 0;
        while (!methods.get(which).getName().equals(name)) which++;
        Object[] boxed = new Object[args.length];
        for (int i = 0; i < args.length; i++) boxed[i] = args[i];
        String got;
        try {
            got = methods.get(which).invoke(given, boxed).toString();
        } catch (InvocationTargetException e) {
            got = e.getCause().toString();
        }
        String want = models.get(which).invoke(model, boxed).toString();
        told.add(name + java.util.Arrays.toString(args) + " answered " + got + ", due is " + want);
        if (!got.equals(want)) {
            wrong = true;
        } else if (given.digest() != model.digest() || given.asked() != model.asked() || given.finding() != model.finding()
            || given.upper() != model.upper() || given.lower() != model.lower()) {
            told.add("behind it what is told is not alike");
            wrong = true;
        }
    }
}

import java.lang.reflect.InvocationTargetException;
import java.lang.reflect.Method;
import java.util.ArrayList;
import java.util.Arrays;
import java.util.HashMap;
import java.util.List;
import java.util.Map;
import java.util.Random;

/** Long runs of calls, each made on a MoonWash and on the Model: every answer and every exception must be the same. */
public final class ModelTest {
    private static final int RUNS = Integer.getInteger("runs", 300);
    private static final int CALLS = 512;

    private static final Map<String, Method> REAL = methods(MoonWash.class);
    private static final Map<String, Method> MODEL = methods(Model.class);
    private static final Map<String, Integer> OFTEN = new java.util.TreeMap<>();

    private final Random random;
    private final Texts texts;
    private final MoonWash real = new MoonWash();
    private final Model model = new Model();
    private final List<String> story = new ArrayList<>();
    private int calls;
    private boolean wrong;

    private ModelTest(long seed) {
        random = new Random(seed);
        texts = new Texts(random);
    }

    private static Map<String, Method> methods(Class<?> c) {
        Map<String, Method> found = new HashMap<>();
        for (Method m : c.getDeclaredMethods()) {
            if (java.lang.reflect.Modifier.isPublic(m.getModifiers())) {
                found.put(m.getName(), m);
            }
        }
        return found;
    }

    public static void main(String[] args) {
        int passed = 0;
        int failed = 0;
        if (!REAL.keySet().equals(MODEL.keySet())) {
            System.out.println("the faces differ: " + REAL.keySet() + " " + MODEL.keySet());
            failed++;
        }
        for (int seed = 1; seed <= RUNS; seed++) {
            if (new ModelTest(seed).run()) {
                passed++;
            } else {
                failed++;
            }
        }
        if (Boolean.getBoolean("often")) {
            OFTEN.forEach((k, v) -> System.out.println(k + " " + v));
        }
        System.out.println("ModelTest: " + passed + " passed, " + failed + " failed");
        System.exit(failed == 0 ? 0 : 1);
    }

    private boolean run() {
        // Some runs begin with nothing told at all.
        if (random.nextInt(8) > 0) {
            put("house", texts.begin());
            put("law", texts.law());
        }
        while (calls < CALLS - 40 && !wrong) {
            if (random.nextInt(12) == 0) {
                tellText();
            } else if (random.nextInt(3) == 0) {
                act();
            } else {
                ask();
            }
        }
        return !wrong;
    }

    private void tellText() {
        switch (random.nextInt(10)) {
            case 0: case 1: case 2: if (random.nextBoolean()) { put("law", texts.law()); } break;
            case 3: case 4: put("house", texts.house()); break;
            case 5: call("feed", n(), n(), n(), n(), n()); break;
            case 6: call("end", n(-1, 45)); break;
            default: putTried();
        }
    }

    private void putTried() {
        StringBuilder b = new StringBuilder();
        for (int i = 0; i < random.nextInt(4); i++) {
            b.append((char) random.nextInt(random.nextInt(8) == 0 ? 7 : 2)).append((char) random.nextInt(random.nextInt(30) == 0 ? 3 : 2));
        }
        if (random.nextInt(20) == 0) {
            b.append('\0');
        }
        put(random.nextBoolean() ? "tries" : "stained", b.toString());
    }

    private void put(String name, String text) {
        call("end", 0);
        for (int[] r : Tape.rows(text)) {
            call("feed", r[0], r[1], r[2], r[3], r[4]);
        }
        call("end", text.length());
        if (name.equals("stained")) {
            call(name, random.nextBoolean());
        } else {
            call(name);
        }
        call("fault");
    }

    private int n() {
        return random.nextInt();
    }

    private int n(int least, int most) {
        return least + random.nextInt(most - least + 1);
    }

    /** A number from 0 on below a bound; at times one that is just none. */
    private int near(int bound) {
        return random.nextInt(25) == 0 ? (random.nextBoolean() ? -1 : bound) : random.nextInt(Math.max(1, bound));
    }

    private int part() {
        return near(8);
    }

    private int soap() {
        return random.nextInt(25) == 0 ? near(6) : random.nextInt(3);
    }

    private boolean b() {
        return random.nextBoolean();
    }

    private void act() {
        switch (random.nextInt(16)) {
            case 0: case 1: case 2: call("wash", part(), soap()); break;
            case 3: case 4: case 5: case 6: call("hang", part(), random.nextInt(4) > 0); break;
            case 7: call("darn", part()); break;
            case 8: call("move", part(), part()); break;
            case 9: if (random.nextInt(6) == 0) { call("drop", soap()); } break;
            case 10: call("nights", random.nextInt(8) == 0 ? n(0, 61) : n(1, 5)); break;
            case 11: call("nights", 1); break;
            case 12: call("seed", n()); break;
            case 13: case 14: call("undo"); break;
            default: if (random.nextInt(3) == 0) { call("back"); } else { call("image"); }
        }
    }

    private void ask() {
        switch (random.nextInt(32)) {
            case 0: call("part", part(), near(11)); break;
            case 1: call("soap", soap(), near(4)); break;
            case 2: call("peg", part(), b()); break;
            case 3: call("due", near(4), b()); break;
            case 4: call("shines"); break;
            case 5: call("light"); break;
            case 6: call("would", part(), soap()); break;
            case 7: call("best", part()); break;
            case 8: case 9: call("least", near(random.nextInt(3) == 0 ? 161 : 80), b() ? -1 : part()); break;
            case 10: call("soaps", part()); break;
            case 11: call("washes", part(), soap()); break;
            case 12: call("soonest", near(10), b() ? -1 : part()); break;
            case 13: call("dried", part(), near(10)); break;
            case 14: case 15: call("ahead", part(), near(41), near(10), near(3)); break;
            case 16: call("watch"); break;
            case 17: call("row"); break;
            case 18: call("darkest"); break;
            case 19: call("tide", near(random.nextInt(3) == 0 ? 161 : 90), near(10)); break;
            case 20: call("late", near(10)); break;
            case 21: call("enough", near(100)); break;
            case 22: call("wears", part(), soap()); break;
            case 23: call("like"); break;
            case 24: call("halves"); break;
            case 25: call("trial", near(41), b()); break;
            case 26: call("span", near(41), b()); break;
            case 27: call("led", part(), b()); break;
            case 28: case 29: call("log", near(random.nextInt(5) == 0 ? 70 : 5), near(4)); break;
            default: call("count", near(14));
        }
    }

    private void call(String name, Object... args) {
        if (wrong) {
            return;
        }
        calls++;
        Object got = answer(REAL.get(name), real, args);
        Object due = answer(MODEL.get(name), model, args);
        story.add(name + Arrays.toString(args) + " -> " + due);
        OFTEN.merge(name + (due instanceof String ? " " + due : ""), 1, Integer::sum);
        if (got == null ? due != null : !got.equals(due)) {
            wrong = true;
            System.out.println("after " + calls + " calls: " + story.subList(Math.max(0, story.size() - 25), story.size()));
            System.out.println("  answered " + got);
        }
    }

    private static Object answer(Method method, Object object, Object[] args) {
        try {
            return method.invoke(object, args);
        } catch (InvocationTargetException e) {
            return "throws." + e.getCause().getClass().getSimpleName();
        } catch (IllegalAccessException e) {
            throw new IllegalStateException(e);
        }
    }
}

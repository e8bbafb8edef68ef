import java.lang.reflect.Constructor;
import java.lang.reflect.Field;
import java.lang.reflect.InvocationTargetException;
import java.lang.reflect.Method;
import java.lang.reflect.Modifier;
import java.util.Arrays;
import java.util.Comparator;
import java.util.List;
import java.util.NoSuchElementException;
import java.util.Random;

/** The face is that of the document, and no call in any state throws what it does not say. */
public final class FuzzTest {
    private static final String[] FACE = {"bears/5", "both/7", "broad/2", "clear/0", "count/1", "cover/6", "crowd/9",
        "dark/5", "dim/2", "edges/3", "errand/7", "feed/3", "follow/1", "guessed/8", "hours/4", "ice/5", "judged/5",
        "keeps/6", "least/6", "leave/7", "mark/2", "meet/7", "parade/3", "pays/5", "piece/6", "plant/7", "price/8",
        "pull/1", "rests/6", "shade/3", "shutAt/3", "soon/6", "spot/1", "spots/8", "square/2", "start/4", "tell/1",
        "town/0", "when/4"};
    private static final List<String> THROWS = List.of("least", "guessed", "crowd", "plant", "spots", "judged", "rests",
            "errand", "meet", "cover", "keeps", "price");

    private FuzzTest() {
    }

    public static void main(String[] args) {
        face();
        Method[] methods = methods();
        for (int seed = 0; seed < 60; seed++) {
            run(methods, seed);
        }
        Check.end();
    }

    private static Method[] methods() {
        Method[] methods = Arrays.stream(ShadySide.class.getDeclaredMethods())
                .filter(m -> Modifier.isPublic(m.getModifiers())).toArray(Method[]::new);
        Arrays.sort(methods, Comparator.comparing(Method::getName));
        return methods;
    }

    private static void face() {
        Check.due("public and final", ShadySide.class.getModifiers(), Modifier.PUBLIC | Modifier.FINAL);
        String[] names = Arrays.stream(methods()).map(m -> m.getName() + "/" + m.getParameterCount())
                .toArray(String[]::new);
        Check.due("face " + Arrays.toString(names), Arrays.equals(names, FACE), true);
        for (Method m : ShadySide.class.getDeclaredMethods()) {
            boolean open = Modifier.isPublic(m.getModifiers());
            Check.due("private or of the face: " + m, open || Modifier.isPrivate(m.getModifiers()), true);
            boolean named = Arrays.stream(FACE).anyMatch(f -> f.startsWith(m.getName() + "/"));
            Check.due("no private one of that name: " + m, open || !named, true);
            if (open) {
                Check.due("throws " + m, m.getExceptionTypes().length == 1 ? 1 : 0,
                        THROWS.contains(m.getName()) ? 1 : 0);
            }
        }
        for (Field f : ShadySide.class.getDeclaredFields()) {
            boolean isNone = f.getName().equals("NONE");
            Check.due("field " + f, Modifier.isPublic(f.getModifiers()), isNone);
            Check.due("private field " + f, Modifier.isPrivate(f.getModifiers()), !isNone);
        }
        for (Constructor<?> c : ShadySide.class.getDeclaredConstructors()) {
            Check.due("constructor " + c, Modifier.isPublic(c.getModifiers()) && c.getParameterCount() == 0, true);
        }
    }

    /** Two objects with the same calls have to answer the same, whatever the calls are. */
    private static void run(Method[] methods, int seed) {
        Texts texts = new Texts(seed);
        Random chance = new Random(seed);
        ShadySide one = new ShadySide();
        ShadySide two = new ShadySide();
        for (int i = 0; i < 400; i++) {
            if (i % 50 == 0 && i < 300) {
                String text = seed % 3 == 0 ? texts.spoiled(texts.town(true)) : texts.town(i % 100 == 0);
                Check.due("town", Check.town(one, text), Check.town(two, text));
            }
            Method m = methods[chance.nextInt(methods.length)];
            if (m.getName().equals("town") && chance.nextInt(4) > 0) {
                continue;
            }
            Object[] args = new Object[m.getParameterCount()];
            boolean wild = chance.nextInt(3) == 0;
            for (int k = 0; k < args.length; k++) {
                args[k] = argument(m.getParameterTypes()[k], chance, wild);
            }
            String call = m.getName() + Arrays.toString(args);
            Check.due(call, answer(m, one, args), answer(m, two, args));
        }
    }

    private static Object argument(Class<?> type, Random chance, boolean wild) {
        if (type == boolean.class) {
            return chance.nextBoolean();
        }
        if (type == long.class) {
            return chance.nextLong();
        }
        int[] edges = {Integer.MIN_VALUE, Integer.MAX_VALUE, -1, 0, 100, 120, 119, 99, 4, 6, 1000000000, -1000000000};
        int kind = chance.nextInt(wild ? 4 : 3);
        return kind == 0 ? chance.nextInt(6) : kind == 1 ? chance.nextInt(100) : kind == 2 ? chance.nextInt(4)
                : edges[chance.nextInt(edges.length)];
    }

    private static long answer(Method m, ShadySide x, Object[] args) {
        try {
            Object got = m.invoke(x, args);
            return got instanceof Boolean b ? (b ? 1 : 0) : ((Number) got).longValue();
        } catch (InvocationTargetException e) {
            boolean may = THROWS.contains(m.getName()) && e.getCause().getClass() == NoSuchElementException.class;
            Check.due(m.getName() + Arrays.toString(args) + " threw " + e.getCause(), may, true);
            return Long.MIN_VALUE;
        } catch (IllegalAccessException e) {
            throw new IllegalStateException(e);
        }
    }
}

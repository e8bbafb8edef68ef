import java.lang.reflect.InvocationTargetException;
import java.lang.reflect.Method;
import java.lang.reflect.Modifier;
import java.util.ArrayList;
import java.util.Arrays;
import java.util.Collections;
import java.util.HashMap;
import java.util.List;
import java.util.Map;
import java.util.NoSuchElementException;
import java.util.Random;

/**
 * Long runs of any calls on one object, each answer beside that of the twin, which works it out by the document's
 * words. Two arguments ask for more: how many runs, and the first one's number.
 */
public final class TwinTest {
    private static final int RUNS = 24;
    private static final int CALLS = 300;

    /** Each call with its arguments, and how often it is made. */
    private static final String[] FACE = {
        "square square few 4", "shade day minute square 6", "when day minute square flag 6", "dim day minute 4",
        "shutAt day minute square 4", "least walker day minute open open few 30",
        "piece walker day minute open open many 20", "soon walker day minute open open many 15",
        "both walker day minute open open few few 20", "bears walker day minute open open 12",
        "hours walker day open open 3", "ice walker day minute open open 15", "pays walker day minute open open 15",
        "guessed walker day minute open near ten ten few 15", "crowd walker day minute open open by ten ten few 10",
        "price walker day minute open open by ten ten 5", "plant walker day minute open open high few 1",
        "spot square 6", "spots walker day minute open open high few few 1", "pull house 1",
        "dark walker day open open few 10", "follow next 40", "parade day minute few 8",
        "start day minute minute few 8", "tell few 40", "clear 3", "judged walker day minute open few 25",
        "rests walker day minute open open few 20", "leave walker day minute minute open open few 12",
        "errand walker day minute open open stay few 15", "meet walker open walker open day minute few 15",
        "cover walker day minute open open few 1", "keeps walker day minute open open house 4", "broad day few 3",
        "edges day minute flag 5", "mark few flag 6", "count many 6"};

    private final Random chance;
    private final Twin twin = new Twin();
    private final ShadySide x = new ShadySide();
    private final List<String> calls = new ArrayList<>();
    /** Trips late in the day, where there is not time for all. */
    private final boolean late;
    /** Towns with many houses and shut lines. */
    private final boolean dense;
    private int last = 44;
    private int wrong;

    private TwinTest(int seed) {
        chance = new Random(seed * 7919L + 5);
        late = seed % 3 == 1;
        dense = seed % 4 > 1;
    }

    public static void main(String[] args) {
        Map<String, Method[]> methods = new HashMap<>();
        for (String row : FACE) {
            String name = row.substring(0, row.indexOf(' '));
            methods.put(name, new Method[] {named(ShadySide.class, name), named(Twin.class, name)});
        }
        int runs = args.length > 0 ? Integer.parseInt(args[0]) : RUNS;
        int first = args.length > 1 ? Integer.parseInt(args[1]) : 0;
        for (int seed = first; seed < first + runs; seed++) {
            new TwinTest(seed).run(methods);
        }
        Check.end();
    }

    private static Method named(Class<?> type, String name) {
        for (Method m : type.getDeclaredMethods()) {
            if (m.getName().equals(name) && Modifier.isPublic(m.getModifiers())) {
                return m;
            }
        }
        throw new IllegalStateException(name);
    }

    private void run(Map<String, Method[]> methods) {
        List<String[]> rows = new ArrayList<>();
        for (String row : FACE) {
            String[] words = row.split(" ");
            for (int i = 0; i < Integer.parseInt(words[words.length - 1]); i++) {
                rows.add(words);
            }
        }
        tell();
        for (int i = 0; i < CALLS && wrong == 0; i++) {
            if (chance.nextInt(90) == 0) {
                tell();
            }
            String[] row = rows.get(chance.nextInt(rows.size()));
            Object[] args = new Object[row.length - 2];
            for (int k = 0; k < args.length; k++) {
                args[k] = argument(row[k + 1]);
            }
            call(methods.get(row[0]), args);
        }
    }

    private void call(Method[] both, Object[] args) {
        calls.add(both[0].getName() + Arrays.toString(args));
        due(answer(both[0], x, args), answer(both[1], twin, args));
    }

    private void due(String got, String want) {
        if (!got.equals(want)) {
            wrong++;
            System.out.println(String.join("\n", calls) + "\nanswered " + got + ", due is " + want);
        }
        Check.due(calls.get(calls.size() - 1), got.equals(want), true);
    }

    private static String answer(Method m, Object on, Object[] args) {
        try {
            return "" + m.invoke(on, args);
        } catch (InvocationTargetException e) {
            return e.getCause().getClass() == NoSuchElementException.class ? "none" : "threw " + e.getCause();
        } catch (IllegalAccessException e) {
            throw new IllegalStateException(e);
        }
    }

    // ---- arguments, mostly such as can be

    private int upTo(int most) {
        return chance.nextInt(most + 1);
    }

    private Object argument(String kind) {
        boolean wild = chance.nextInt(60) == 0;
        if (kind.equals("flag")) {
            return chance.nextBoolean();
        }
        if (wild) {
            return new int[] {-1, 100, 120, 4, 6, Integer.MAX_VALUE, Integer.MIN_VALUE, upTo(130)}[upTo(7)];
        }
        switch (kind) {
            case "walker":
                return chance.nextInt(12) == 0 ? upTo(5) : upTo(1);
            case "day":
                return chance.nextInt(3) == 0 ? upTo(3) : 0;
            case "minute":
                return chance.nextInt(4) == 0 ? upTo(119) : late ? 90 + upTo(29) : upTo(60);
            case "by":
                return chance.nextInt(3) == 0 ? upTo(119) : 40 + upTo(79);
            case "square":
                return upTo(99);
            case "open":
                last = some("nothing");
                return last;
            case "near":
                return around(around(last));
            case "next":
                last = around(last);
                return last;
            case "house":
                return some("house");
            case "few":
                return upTo(4);
            case "many":
                return upTo(12);
            case "ten":
                return upTo(9);
            case "high":
                return 1 + upTo(chance.nextInt(2) == 0 ? 8 : 98);
            default:
                return upTo(40);
        }
    }

    private int some(String what) {
        int square = upTo(99);
        for (int i = 0; i < 60 && (x.square(square, 0) == 1) != what.equals("house"); i++) {
            square = upTo(99);
        }
        return square;
    }

    private int around(int square) {
        int piece = upTo(3);
        int at = square + new int[] {-10, 1, 10, -1}[piece];
        return at < 0 || at > 99 ? square : at;
    }

    // ---- towns

    private void tell() {
        String text = "";
        for (int i = 0; i < 50 && (i == 0 || text.length() > 1000); i++) {
            text = text();
        }
        if (chance.nextInt(6) == 0) {
            int at = upTo(text.length() - 1);
            text = text.substring(0, at) + " ;()<=+-*x1~not".charAt(upTo(14)) + text.substring(at + upTo(1));
        }
        calls.add("text " + text);
        due("" + Check.feed(x, text), "" + feed(text));
        calls.add("town()");
        due("" + x.town(), "" + twin.town());
    }

    private int feed(String text) {
        int size = 0;
        for (int i = 0; i < text.length(); i++) {
            size = twin.feed(0, (long) text.charAt(i) << 16, 0);
        }
        return size;
    }

    private String text() {
        StringBuilder text = new StringBuilder();
        List<Integer> free = new ArrayList<>();
        for (int i = 0; i < 100; i++) {
            free.add(i);
        }
        Collections.shuffle(free, chance);
        int houses = upTo(dense ? 34 : 10);
        for (int i = 0; i < houses; i++) {
            text.append("house ").append(spot(free.remove(0)));
            text.append(1 + upTo(chance.nextInt(2) == 0 ? 5 : 98)).append(";");
        }
        for (int i = upTo(4); i > 0; i--) {
            text.append("tree ").append(spot(free.remove(0))).append(1 + upTo(9)).append(";\n");
        }
        for (int i = upTo(4); i > 0; i--) {
            text.append("arcade ").append(spot(free.remove(0))).append(";");
        }
        for (int i = upTo(4); i > 0; i--) {
            text.append("awning ").append(spot(upTo(99))).append("when ").append(formula(2)).append(";");
        }
        for (int i = upTo(dense ? 12 : 4); i > 0; i--) {
            text.append("shut ").append(spot(upTo(99))).append("when ").append(formula(2)).append(";");
        }
        for (int i = upTo(4); i > 0; i--) {
            text.append("water ").append(spot(upTo(99))).append(";");
        }
        for (int day = 0; day < 4; day++) {
            int minute = upTo(20);
            for (int i = day == 0 ? 1 + upTo(4) : upTo(1); i > 0 && minute < 120; i--) {
                text.append("sun ").append(day).append(" from ").append(minute).append(
                        new String[] {"north", "northeast", "east", "southeast", "south", "southwest", "west",
                            "northwest"}[upTo(7)]);
                text.append(1 + upTo(chance.nextBoolean() ? 3 : 98)).append(" over ").append(1 + upTo(9)).append(";");
                minute += 1 + upTo(40);
            }
        }
        for (int w = 0; w < 2 + upTo(1); w++) {
            text.append("walker ").append(w).append(" pace ").append(1 + upTo(2));
            text.append(" bears ").append(1 + upTo(12)).append(" mends ").append(1 + upTo(3));
            text.append(" ice ").append(upTo(400)).append(" hot ").append(upTo(9)).append(" cool ").append(upTo(9)).append(";");
        }
        return text.toString();
    }

    private String spot(int square) {
        return square % 10 + " " + square / 10 + " ";
    }

    private String formula(int depth) {
        switch (upTo(depth > 0 ? 7 : 3)) {
            case 0:
                return "minute<" + upTo(119);
            case 1:
                return upTo(119) + "<minute";
            case 2:
                return "minute=" + upTo(119) + " or day";
            case 3:
                return "day=" + upTo(3);
            case 4:
                return "not(" + formula(depth - 1) + ")";
            case 5:
                return formula(depth - 1) + " or " + formula(depth - 1);
            case 6:
                return "(" + formula(depth - 1) + ")*" + upTo(3) + "-minute<" + (upTo(60) + "*day");
            default:
                return formula(depth - 1) + " and " + formula(depth - 1);
        }
    }
}

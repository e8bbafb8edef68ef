import java.nio.charset.StandardCharsets;
import java.util.NoSuchElementException;

/** What the tests share: rows of due answers, and the telling of a town by its text. */
final class Check {
    /** An answer of the class that may throw. */
    interface Call {
        long answer();
    }

    private static int wrong = 0;
    private static int asked = 0;

    private Check() {
    }

    static void due(String what, long got, long want) {
        asked++;
        if (got != want) {
            wrong++;
            if (wrong <= 50) {
                System.out.println(what + " answered " + got + ", due is " + want);
            }
        }
    }

    static void due(String what, boolean got, boolean want) {
        due(what, got ? 1 : 0, want ? 1 : 0);
    }

    /** The call has to throw a NoSuchElementException, that very class. */
    static void none(String what, Call call) {
        asked++;
        try {
            long got = call.answer();
            wrong++;
            System.out.println(what + " answered " + got + ", due is NoSuchElementException");
        } catch (RuntimeException e) {
            if (e.getClass() != NoSuchElementException.class) {
                wrong++;
                System.out.println(what + " threw " + e);
            }
        }
    }

    /** An answer, or this if the call throws NoSuchElementException. */
    static long orElse(Call call, long thrown) {
        try {
            return call.answer();
        } catch (NoSuchElementException e) {
            return thrown;
        }
    }

    static int feed(ShadySide x, String text) {
        byte[] signs = text.getBytes(StandardCharsets.ISO_8859_1);
        int size = x.count(10);
        for (int i = 0; i < signs.length; i += 24) {
            size = x.feed(word(signs, i), word(signs, i + 8), word(signs, i + 16));
        }
        return size;
    }

    private static long word(byte[] signs, int from) {
        long word = 0;
        for (int i = from; i < from + 8; i++) {
            word = word << 8 | (i < signs.length ? signs[i] & 255 : 0);
        }
        return word;
    }

    /** Reads a text on an object: 0 or the fault. */
    static int town(ShadySide x, String text) {
        feed(x, text);
        return x.town();
    }

    /** A new object with the town of a text that has no fault. */
    static ShadySide made(String text) {
        ShadySide x = new ShadySide();
        due("town of " + text, town(x, text), 0);
        return x;
    }

    static void end() {
        System.out.println(asked + " answers, " + wrong + " wrong");
        if (wrong > 0) {
            System.exit(1);
        }
    }
}

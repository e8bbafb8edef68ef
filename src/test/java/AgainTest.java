import java.util.Random;

/**
 * What was told ahead leaves nothing behind: an object that was told many towns, with faults between them, answers as
 * a new one that was told the last alone; one that went back to a mark, as a new one that was told what it holds.
 */
public final class AgainTest {
    private static final int SEEDS = 700;
    private static final int QUESTIONS = 220;
    private static final long THROWN = -99;

    private final Texts texts;
    private final int seed;

    private AgainTest(int seed) {
        this.seed = seed;
        texts = new Texts(90000 + seed);
    }

    public static void main(String[] args) {
        for (int seed = 0; seed < SEEDS; seed++) {
            AgainTest test = new AgainTest(seed);
            if (seed % 2 == 0) {
                test.toldAgain();
            } else {
                test.gotBack();
            }
        }
        Check.end();
    }

    private String text() {
        return texts.once(8) ? "" : texts.once(2) ? texts.patchwork(false) : texts.town(texts.once(2));
    }

    /** Up to three texts, most of them towns, and things done with them. */
    private void tellOthers(ShadySide x) {
        for (int i = texts.between(1, 3); i > 0; i--) {
            String text = text();
            String told = texts.once(3) ? texts.spoiled(text) : text;
            Check.town(x, told.substring(0, Math.min(1000, told.length())));
            doThings(x, texts.upTo(1000));
        }
    }

    private static void doThings(ShadySide x, int chance) {
        Random by = new Random(chance);
        x.spot(by.nextInt(100));
        x.spot(by.nextInt(100));
        int s = by.nextInt(90);
        x.follow(s);
        x.follow(s + 10);
        x.tell(by.nextInt(5));
        x.tell(by.nextInt(5));
        x.pull(by.nextInt(100));
    }

    private void toldAgain() {
        ShadySide x = new ShadySide();
        tellOthers(x);
        String last = text();
        Check.due("told again", Check.town(x, last), 0);
        same(x, Check.made(last), "told again " + last);
    }

    private void gotBack() {
        ShadySide x = new ShadySide();
        if (texts.once(2)) {
            tellOthers(x);
        }
        String kept = text();
        int chance = texts.upTo(1000);
        int mark = texts.upTo(3);
        Check.due("told", Check.town(x, kept), 0);
        doThings(x, chance);
        Check.due("laid", x.mark(mark, false), true);
        tellOthers(x);
        Check.due("back", x.mark(mark, true), true);
        ShadySide y = Check.made(kept);
        doThings(y, chance);
        same(x, y, "gone back to " + kept);
    }

    private void same(ShadySide x, ShadySide y, String what) {
        for (int i = 0; i < 12; i++) {
            Check.due("count " + i + " " + what, x.count(i), y.count(i));
        }
        for (int i = 0; i < QUESTIONS; i++) {
            long chance = seed * 1000L + i;
            Check.due("question " + i % 22 + " of " + what, ask(x, i % 22, new Random(chance)),
                    ask(y, i % 22, new Random(chance)));
        }
    }

    private static long ask(ShadySide x, int kind, Random by) {
        return Check.orElse(() -> kind < 10 ? askAround(x, kind, by) : askTrip(x, kind, by), THROWN);
    }

    private static long askAround(ShadySide x, int kind, Random by) {
        int square = by.nextInt(100);
        int day = by.nextInt(4);
        int minute = by.nextInt(120);
        switch (kind) {
            case 0: return x.square(square, 0);
            case 1: return x.square(square, 1);
            case 2: return x.shade(day, minute, square);
            case 3: return x.shutAt(day, minute, square);
            case 4: return x.dim(day, minute);
            case 5: return x.when(day, minute, square, by.nextBoolean());
            case 6: return x.broad(day, by.nextInt(2));
            case 7: return x.edges(day, minute, by.nextBoolean());
            case 8: return x.parade(day, minute, 1 + by.nextInt(3));
            default: return x.start(day, 0, minute, 1 + by.nextInt(3));
        }
    }

    private static long askTrip(ShadySide x, int kind, Random by) {
        int walker = by.nextInt(6);
        int day = by.nextInt(4);
        int minute = by.nextInt(100);
        int from = by.nextInt(100);
        int to = Math.max(0, Math.min(99, from + by.nextInt(9) - 4));
        switch (kind) {
            case 10: return x.least(walker, day, minute, from, to, by.nextInt(3));
            case 11: return x.soon(walker, day, minute, from, to, by.nextInt(9));
            case 12: return x.bears(walker, day, minute, from, to);
            case 13: return x.hours(walker, day, from, to);
            case 14: return x.ice(walker, day, minute, from, to);
            case 15: return x.dark(walker, day, from, to, by.nextInt(3));
            case 16: return x.judged(walker, day, minute, from, by.nextInt(7));
            case 17: return x.spots(walker, day, minute, from, to, 9, 2, by.nextInt(2));
            case 18: return x.keeps(walker, day, minute, from, to, by.nextInt(100));
            case 19: return x.plant(walker, day, minute, from, to, 5, by.nextInt(2));
            case 20: return x.crowd(walker, day, minute, from, to, 119, 3, 2, by.nextInt(4));
            default: return x.meet(walker, from, by.nextInt(6), to, day, minute, by.nextInt(3));
        }
    }
}

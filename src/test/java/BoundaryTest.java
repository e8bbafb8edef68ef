import java.util.ArrayList;
import java.util.List;
import java.util.NoSuchElementException;
import java.util.Set;

/**
 * The boundaries that the document names, sentence by sentence: the least and the most that may be and what lies
 * beyond, nothing yet, all places taken, ints that wrap, and that a refused call leaves all as it was. The methods
 * bear the names of the document's terms and calls.
 */
public final class BoundaryTest {
    private static final int MIN = Integer.MIN_VALUE;
    private static final int MAX = Integer.MAX_VALUE;

    private static final Set<String> THROWS = Set.of("least", "guessed", "crowd", "plant", "spots", "judged", "rests",
            "errand", "meet", "cover", "keeps", "price");

    /** Walkers of each pace; 3 and 4 are not told. */
    private static final String WALKERS = "walker 0 pace 1 bears 3 mends 1 ice 100 hot 5 cool 1;"
            + "walker 1 pace 2 bears 3 mends 1 ice 100 hot 5 cool 1;walker 2 pace 3 bears 3 mends 1 ice 100 hot 5 cool 1;"
            + "walker 5 pace 1 bears 99 mends 99 ice 9999 hot 99 cool 99;";

    /** All of each day in the sun. */
    private static final String SUNNY = "sun 0 from 0 north 9 over 1;sun 1 from 0 north 9 over 1;"
            + "sun 2 from 0 north 9 over 1;sun 3 from 0 north 9 over 1;";

    /** One of each thing; in the sun from minute 60 on; a house on 55, a tree on 9, an arcade on 90. */
    private static final String TOWN = "house 5 5 9;tree 9 0 1;arcade 0 9;awning 6 6 when day=2;"
            + "shut 3 3 when minute=7;water 8 8;sun 0 from 60 north 9 over 1;sun 1 from 60 north 9 over 1;"
            + "sun 2 from 60 north 9 over 1;sun 3 from 60 north 9 over 1;" + WALKERS;

    private BoundaryTest() {
    }

    public static void main(String[] args) {
        for (Row row : rows()) {
            edges(row);
        }
        refusedTowns();
        toldAnew();
        atOnce();
        tape();
        fullTape();
        tokens();
        limits();
        wholeNumbers();
        wraps();
        shade();
        steps();
        shutMinutes();
        when();
        pairs();
        heat();
        ice();
        guessed();
        crowd();
        spots();
        procession();
        told();
        errand();
        meet();
        cover();
        days();
        marks();
        lastCall();
        Check.end();
    }

    // ---- each argument of each call

    private interface Asked {
        long answer(ShadySide x, int[] a);
    }

    /**
     * A call that is answered, and of each argument the least and the most with which it is: w a walker, d a day,
     * m a minute, n a minute that leaves one more for a step, s a square, o one without a house, or low..high.
     */
    private record Row(String name, String kinds, String base, Asked call) {
    }

    private static List<Row> rows() {
        List<Row> rows = new ArrayList<>();
        rowsOfSquares(rows);
        rowsOfTrips(rows);
        rowsOfMore(rows);
        return rows;
    }

    private static void rowsOfSquares(List<Row> rows) {
        rows.add(new Row("square", "s 0..1", "44 0", (x, a) -> x.square(a[0], a[1])));
        rows.add(new Row("shade", "d m s", "0 0 44", (x, a) -> x.shade(a[0], a[1], a[2])));
        rows.add(new Row("when light", "d m 0..89", "0 0 44", (x, a) -> x.when(a[0], a[1], a[2] + 10, false)));
        rows.add(new Row("when dark", "d 0..59 s", "0 0 44", (x, a) -> x.when(a[0], a[1], a[2], true)));
        rows.add(new Row("dim", "d m", "0 0", (x, a) -> x.dim(a[0], a[1])));
        rows.add(new Row("shutAt", "d m s", "0 0 44", (x, a) -> x.shutAt(a[0], a[1], a[2])));
        rows.add(new Row("spot", "o", "44", (x, a) -> x.spot(a[0])));
        rows.add(new Row("pull", "55..55", "55", (x, a) -> x.pull(a[0]) ? 1 : -1));
        rows.add(new Row("broad", "d 0..1", "0 0", (x, a) -> x.broad(a[0], a[1])));
        rows.add(new Row("edges came", "d 1..119", "0 1", (x, a) -> x.edges(a[0], a[1], true)));
        rows.add(new Row("edges gone", "d 1..119", "0 1", (x, a) -> x.edges(a[0], a[1], false)));
        rows.add(new Row("mark", "0..3", "0", (x, a) -> x.mark(a[0], false) ? 1 : -1));
        rows.add(new Row("mark back", "1..2", "1", (x, a) -> x.mark(a[0], true) ? 1 : -1));
        rows.add(new Row("count", "0..11", "0", (x, a) -> x.count(a[0])));
        rows.add(new Row("parade", "d m 1..3", "0 0 1", (x, a) -> x.parade(a[0], a[1], a[2])));
        rows.add(new Row("start", "d m m 1..3", "0 0 119 1", (x, a) -> x.start(a[0], a[1], a[2], a[3])));
        rows.add(new Row("start at once", "d 0..7 7..119 1..3", "0 7 7 1",
                (x, a) -> x.start(a[0], a[1], a[2], a[3])));
        rows.add(new Row("tell", "0..4", "0", (x, a) -> x.tell(a[0])));
    }

    private static void rowsOfTrips(List<Row> rows) {
        String trip = "w d n o o";
        String base = "0 0 0 44 45";
        rows.add(new Row("least", trip + " 0..2", base + " 0", (x, a) -> x.least(a[0], a[1], a[2], a[3], a[4], a[5])));
        rows.add(new Row("piece", trip + " 0..0", base + " 0", (x, a) -> x.piece(a[0], a[1], a[2], a[3], a[4], a[5])));
        rows.add(new Row("soon", trip + " 0.." + MAX, base + " 9",
                (x, a) -> x.soon(a[0], a[1], a[2], a[3], a[4], a[5])));
        rows.add(new Row("both", trip + " 0..0 0..1", base + " 0 0",
                (x, a) -> x.both(a[0], a[1], a[2], a[3], a[4], a[5], a[6])));
        rows.add(new Row("bears", trip, base, (x, a) -> x.bears(a[0], a[1], a[2], a[3], a[4])));
        rows.add(new Row("ice", trip, base, (x, a) -> x.ice(a[0], a[1], a[2], a[3], a[4])));
        rows.add(new Row("pays", trip, base, (x, a) -> x.pays(a[0], a[1], a[2], a[3], a[4])));
        rows.add(new Row("guessed", trip + " 0..10 1..12 0..1", base + " 5 12 0",
                (x, a) -> x.guessed(a[0], a[1], a[2], a[3], a[4], a[5], a[6], a[7])));
        rows.add(new Row("crowd", trip + " 1..119 1..8 0..9 0..3", base + " 119 2 1 0",
                (x, a) -> x.crowd(a[0], a[1], a[2], a[3], a[4], a[5], a[6], a[7], a[8])));
        rows.add(new Row("price", trip + " 1..119 1..8 0..9", base + " 119 2 1",
                (x, a) -> x.price(a[0], a[1], a[2], a[3], a[4], a[5], a[6], a[7])));
        rows.add(new Row("plant", trip + " 1..99 0..1", base + " 5 0",
                (x, a) -> x.plant(a[0], a[1], a[2], a[3], a[4], a[5], a[6])));
        rows.add(new Row("spots", trip + " 1..99 1..8 0..1", base + " 5 1 0",
                (x, a) -> x.spots(a[0], a[1], a[2], a[3], a[4], a[5], a[6], a[7])));
        rows.add(new Row("rests", trip + " 0..3", base + " 0",
                (x, a) -> x.rests(a[0], a[1], a[2], a[3], a[4], a[5])));
        rows.add(new Row("cover", trip + " 0..1", base + " 0",
                (x, a) -> x.cover(a[0], a[1], a[2], a[3], a[4], a[5])));
        rows.add(new Row("keeps", trip + " 55..55", base + " 55",
                (x, a) -> x.keeps(a[0], a[1], a[2], a[3], a[4], a[5])));
    }

    private static void rowsOfMore(List<Row> rows) {
        rows.add(new Row("hours", "w d o o", "0 0 44 45", (x, a) -> x.hours(a[0], a[1], a[2], a[3])));
        rows.add(new Row("dark", "w d o o 0..2", "0 0 44 45 0", (x, a) -> x.dark(a[0], a[1], a[2], a[3], a[4])));
        rows.add(new Row("judged", "w d m o 0..6", "0 0 0 44 0", (x, a) -> x.judged(a[0], a[1], a[2], a[3], a[4])));
        rows.add(new Row("leave", "w d n m o o 0..3", "0 0 0 118 44 45 0",
                (x, a) -> x.leave(a[0], a[1], a[2], a[3], a[4], a[5], a[6])));
        rows.add(new Row("errand", "w d 0..117 o o 0..60 0..1", "0 0 0 44 45 0 0",
                (x, a) -> x.errand(a[0], a[1], a[2], a[3], a[4], a[5], a[6])));
        rows.add(new Row("meet", "w o w o d n 0..2", "0 44 1 45 0 0 0",
                (x, a) -> x.meet(a[0], a[1], a[2], a[3], a[4], a[5], a[6])));
        String same = "w d m 44..44 44..44";
        rows.add(new Row("least", same + " 0..2", "0 0 0 44 44 0",
                (x, a) -> x.least(a[0], a[1], a[2], a[3], a[3], a[5])));
        rows.add(new Row("guessed", "w d m o 0..10 1..12 0..1", "0 0 119 44 10 1 0",
                (x, a) -> x.guessed(a[0], a[1], a[2], a[3], a[3], a[4], a[5], a[6])));
        rows.add(new Row("crowd", "w d m o 7..119 1..8 0..9 0..3", "0 0 7 44 119 8 9 0",
                (x, a) -> x.crowd(a[0], a[1], a[2], a[3], a[3], a[4], a[5], a[6], a[7])));
        rows.add(new Row("price", "w d m o 7..119 1..8 0..9", "0 0 7 44 119 8 9",
                (x, a) -> x.price(a[0], a[1], a[2], a[3], a[3], a[4], a[5], a[6])));
        rows.add(new Row("errand", "w d 0..59 o 0..60 0..1", "0 0 59 44 60 0",
                (x, a) -> x.errand(a[0], a[1], a[2], a[3], a[3], a[4], a[5])));
        rows.add(new Row("leave", "w d m 0..119 o 0..3", "0 0 0 119 44 0",
                (x, a) -> x.leave(a[0], a[1], a[2], a[3], a[4], a[4], a[5])));
        rows.add(new Row("meet", "w o w d m 0..2", "0 44 5 0 0 0",
                (x, a) -> x.meet(a[0], a[1], a[2], a[1], a[3], a[4], a[5])));
    }

    private static void edges(Row row) {
        String[] kinds = row.kinds.split(" ");
        int[] base = numbers(row.base);
        answered(row, base);
        for (int k = 0; k < kinds.length; k++) {
            int low = low(kinds[k]);
            int high = high(kinds[k]);
            if (low == high && low == 44) {
                continue;
            }
            answered(row, with(base, k, low));
            answered(row, with(base, k, high));
            int more = kinds[k].equals("w") ? 3 : kinds[k].equals("o") ? 55 : kinds[k].equals("n") ? 120 : -1;
            for (int wrong : new int[] {low - 1, high + 1, MIN, MAX, more}) {
                if (wrong < low || wrong > high || wrong == more && more >= 0) {
                    refused(row, with(base, k, wrong));
                }
            }
        }
    }

    private static int low(String kind) {
        return kind.contains("..") ? Integer.parseInt(kind.split("\\.\\.")[0]) : 0;
    }

    private static int high(String kind) {
        switch (kind) {
            case "w": return 5;
            case "d": return 3;
            case "m": return 119;
            case "n": return 118;
            case "s":
            case "o": return 99;
            default: return Integer.parseInt(kind.split("\\.\\.")[1]);
        }
    }

    private static int[] numbers(String text) {
        String[] parts = text.split(" ");
        int[] numbers = new int[parts.length];
        for (int i = 0; i < parts.length; i++) {
            numbers[i] = Integer.parseInt(parts[i]);
        }
        return numbers;
    }

    private static int[] with(int[] base, int k, int value) {
        int[] args = base.clone();
        args[k] = value;
        return args;
    }

    private static String told(Row row, int[] args) {
        StringBuilder text = new StringBuilder(row.name);
        for (int a : args) {
            text.append(' ').append(a);
        }
        return text.toString();
    }

    private static void answered(Row row, int[] args) {
        Check.due(told(row, args) + " is refused", refuses(row, prepared(), args), false);
    }

    private static void refused(Row row, int[] args) {
        ShadySide x = prepared();
        Check.due(told(row, args) + " is refused", refuses(row, x, args), true);
        Check.due("all is as it was behind " + told(row, args), tale(x).equals(tale(prepared())), true);
    }

    private static boolean refuses(Row row, ShadySide x, int[] args) {
        boolean mayThrow = THROWS.contains(row.name);
        try {
            return row.call.answer(x, args) == -1 && !mayThrow;
        } catch (NoSuchElementException e) {
            Check.due(told(row, args) + " may throw", mayThrow, true);
            return true;
        }
    }

    private static ShadySide prepared() {
        ShadySide x = Check.made(TOWN);
        x.spot(22);
        x.spot(23);
        x.tell(2);
        x.mark(2, false);
        x.follow(44);
        x.tell(1);
        x.mark(1, false);
        Check.feed(x, "ab");
        return x;
    }

    /** What an object answers to many calls, those that change it last. */
    private static List<Long> tale(ShadySide x) {
        List<Long> tale = new ArrayList<>();
        for (int s = 0; s < 100; s++) {
            tale.add((long) x.square(s, 0));
            tale.add((long) x.shade(2, 60, s));
        }
        for (int day = 0; day < 4; day++) {
            tale.add((long) x.dim(day, 59));
            tale.add((long) x.dim(day, 60));
            tale.add((long) x.shutAt(day, 7, 33));
        }
        tale.add((long) x.square(55, 1));
        for (int walker = 0; walker < 6; walker++) {
            tale.add((long) x.ice(walker, 0, 58, 44, 66));
            tale.add((long) x.bears(walker, 0, 60, 87, 89));
            tale.add((long) x.hours(walker, 0, 42, 44));
        }
        for (int what = 0; what < 4; what++) {
            tale.add((long) x.rests(0, 0, 59, 44, 47, what));
            tale.add((long) x.leave(0, 0, 10, 90, 44, 47, what));
            tale.add((long) x.crowd(0, 0, 50, 44, 46, 119, 3, 2, what));
        }
        for (int what = 0; what < 7; what++) {
            tale.add((long) x.judged(0, 0, 60, 44, what));
        }
        tale.add((long) x.spots(0, 0, 60, 22, 24, 1, 2, 0));
        tale.add((long) x.spots(0, 0, 60, 23, 24, 1, 2, 0));
        tale.add((long) x.keeps(0, 0, 60, 64, 66, 55));
        tale.add((long) x.follow(45));
        tale.add((long) x.parade(0, 60, 3));
        tale.add((long) x.start(0, 59, 60, 1));
        tale.add((long) x.spot(90));
        tale.add((long) x.spot(91));
        tale.add((long) x.tell(3));
        changes(tale, x);
        return tale;
    }

    private static void changes(List<Long> tale, ShadySide x) {
        for (int mark = 0; mark < 4; mark++) {
            tale.add(x.mark(mark, true) ? 1L : 0L);
            for (int what = 0; what < 12; what++) {
                tale.add((long) x.count(what));
            }
        }
        tale.add((long) x.feed(0x63L, 0, 0));
        tale.add((long) x.town());
        tale.add((long) x.feed(0x63L, 0, 0));
    }

    /** A text with a fault of each kind is taken, and changes nothing else. */
    private static void refusedTowns() {
        String timed = "awning 1 1 when 1;".repeat(20);
        String[] wrong = {"?", "tree 1 1 1;tree 1 1 1;", "tree 1 1 100;", timed + "shut", "walker 0 pace 1", "a",
            "sun 0 from 0 east 1 over 1;sun 0 from 0 east 1 over 1;", "house 1 1 1;awning 1 1 when (((((1"};
        for (String text : wrong) {
            ShadySide x = prepared();
            ShadySide y = prepared();
            Check.due("the fault of ab", x.town(), 1);
            Check.due("the fault of ab", y.town(), 1);
            Check.due("a fault of " + text, Check.town(x, text) > 0, true);
            Check.due("all is as it was behind " + text, tale(x).equals(tale(y)), true);
        }
    }

    /** "all else that was told is as at first, but MARKS; at first it is empty": nothing of an old town is left. */
    private static void toldAnew() {
        StringBuilder full = new StringBuilder(SUNNY);
        for (int i = 0; i < 10; i++) {
            full.append("house ").append(i).append(" 0 9;arcade ").append(i).append(" 1;tree ").append(i).append(" 9 9;");
            full.append(i < 9 ? "awning " + i + " 5 when 1;shut " + i + " 6 when 1;" : "");
        }
        for (String water : new String[] {"", "water 3 4;"}) {
            ShadySide x = new ShadySide();
            for (int i = 0; i < 3; i++) {
                Check.due("full", Check.town(x, full + water), 0);
                for (int s = 20; s < 28; s++) {
                    Check.due("spot", x.spot(s), s - 20);
                }
                x.follow(44);
                x.tell(2);
            }
            Check.due("a fault behind many lines", Check.town(x, full + "water 3 4;awning 1 1 when ((1+2<3 and"),
                    1 + 16 * (full.length() + 37));
            x.mark(1, false);
            Check.due("another town", Check.town(x, TOWN), 0);
            ShadySide y = Check.made(TOWN);
            y.mark(1, false);
            for (int what = 0; what < 12; what++) {
                Check.due("count " + what, x.count(what), y.count(what));
            }
            for (int s = 0; s < 100; s++) {
                Check.due("what is on " + s, x.square(s, 0), y.square(s, 0));
                Check.due("height on " + s, x.square(s, 1), y.square(s, 1));
            }
            Check.due("dim", x.dim(0, 60), y.dim(0, 60));
            for (int s = 50; s < 70; s++) {
                Check.due("shut " + s, x.shutAt(0, 0, s), 0);
                Check.due("shade " + s, x.shade(0, 60, s), y.shade(0, 60, s));
            }
            Check.due("no water is left", x.bears(0, 0, 60, 40, 45), -1);
            Check.due("no water is left", x.hours(0, 0, 40, 45), 59);
        }
        String many = "awning 4 4 when 0<1 and day;".repeat(20);
        ShadySide z = new ShadySide();
        for (int i = 0; i < 9; i++) {
            Check.due("20 lines each time", Check.town(z, many + SUNNY), 0);
            Check.due("day 0", z.shade(0, 0, 44), 0);
            Check.due("day 1", z.shade(1, 0, 44), 1);
        }
    }

    // ---- trips that end at once

    /** "at once if it is the same", also in MINUTE 119 and in the sun. */
    private static void atOnce() {
        ShadySide x = Check.made(SUNNY + WALKERS + "house 9 9 9;shut 4 4 when 1;");
        int[] least = {0, 119, 0};
        int[] crowd = {0, 0, 1, 0};
        int[] rests = {0, 0, -1, 0};
        int[] leave = {119, 0, 119, 0};
        int[] met = {0, 119, 44};
        for (int what = 0; what < 4; what++) {
            Check.due("crowd " + what, x.crowd(2, 0, 119, 44, 44, 119, 8, 9, what), crowd[what]);
            Check.due("rests " + what, x.rests(2, 0, 119, 44, 44, what), rests[what]);
            Check.due("leave " + what, x.leave(2, 0, 119, 119, 44, 44, what), leave[what]);
        }
        for (int what = 0; what < 3; what++) {
            Check.due("least " + what, x.least(2, 0, 119, 44, 44, what), least[what]);
            Check.due("meet " + what, x.meet(2, 44, 1, 44, 0, 119, what), met[what]);
        }
        Check.due("no piece", x.piece(2, 0, 119, 44, 44, 0), -1);
        Check.due("soon", x.soon(2, 0, 119, 44, 44, 0), 119);
        Check.due("both", x.both(2, 0, 119, 44, 44, 0, 0), 119);
        Check.due("both", x.both(2, 0, 119, 44, 44, 0, 1), 0);
        Check.due("one pair alone", x.both(2, 0, 119, 44, 44, 1, 0), -1);
        Check.due("bears", x.bears(2, 0, 119, 44, 44), 119);
        Check.due("hours", x.hours(2, 0, 44, 44), 120);
        Check.due("ice", x.ice(2, 0, 119, 44, 44), 100);
        Check.due("pays", x.pays(2, 0, 119, 44, 44), 0);
        Check.due("guessed, above", x.guessed(2, 0, 119, 44, 44, 0, 1, 0), 0);
        Check.due("guessed, below", x.guessed(2, 0, 119, 44, 44, 0, 1, 1), 1);
        Check.due("plant", x.plant(2, 0, 119, 44, 44, 1, 0), -1);
        Check.due("plant, by", x.plant(2, 0, 119, 44, 44, 1, 1), 0);
        Check.due("spots", x.spots(2, 0, 119, 44, 44, 1, 1, 0), 0);
        Check.due("spots, least", x.spots(2, 0, 119, 44, 44, 1, 1, 1), 0);
        Check.due("dark", x.dark(2, 0, 44, 44, 0), 120);
        Check.due("dark, the first", x.dark(2, 0, 44, 44, 1), 0);
        Check.due("dark, the soonest", x.dark(2, 0, 44, 44, 2), 0);
        Check.due("errand", x.errand(2, 0, 119, 44, 44, 0, 0), 0);
        Check.due("errand, back", x.errand(2, 0, 119, 44, 44, 0, 1), 119);
        Check.none("no time to stay", () -> x.errand(2, 0, 119, 44, 44, 1, 0));
        Check.due("cover", x.cover(2, 0, 119, 44, 44, 0), -1);
        Check.due("keeps", x.keeps(2, 0, 119, 44, 44, 99), 0);
        Check.due("price", x.price(2, 0, 119, 44, 44, 119, 8, 9), 0);
    }

    // ---- the tape and the language

    /** "10 and 32 .. 126", at each place of each word; all others are left out. */
    private static void tape() {
        for (int sign = 0; sign < 256; sign++) {
            int one = sign == 10 || sign >= 32 && sign <= 126 ? 1 : 0;
            ShadySide x = new ShadySide();
            int due = 0;
            for (int shift = 0; shift < 64; shift += 8) {
                long word = (long) sign << shift;
                Check.due("a of sign " + sign, x.feed(word, 0, 0), due += one);
                Check.due("b of sign " + sign, x.feed(0, word, 0), due += one);
                Check.due("c of sign " + sign, x.feed(0, 0, word), due += one);
            }
            Check.due("count of sign " + sign, x.count(10), due);
        }
        ShadySide y = new ShadySide();
        Check.due("nothing comes", y.feed(0, 0, 0), 0);
        Check.due("24 signs come", y.feed(0x7472656531203220L, 0x333B747265653420L, 0x3520363B20202020L), 24);
        Check.due("in their order", y.town(), 0);
        Check.due("of a", y.square(21, 1), 3);
        Check.due("of b and c", y.square(54, 1), 6);
        Check.due("with gaps", y.feed(0x7400720065006500L, 0x3920003920093900L, 0x7F3B80FF0C0D1F00L), 10);
        Check.due("in their order", y.town(), 0);
        Check.due("what is left out parts nothing", y.square(99, 1), 9);
    }

    private static ShadySide withBlanks(int many) {
        ShadySide x = new ShadySide();
        Check.due("blanks", Check.feed(x, " ".repeat(many)), many);
        return x;
    }

    /** "at most 1,000 signs", "what reads it takes it", "the end being one at the text's length". */
    private static void fullTape() {
        ShadySide x = withBlanks(999);
        Check.due("one place is left", x.feed(0x413B000000000000L, 0x3B3B3B3B3B3B3B3BL, -1), 1000);
        Check.due("none is left", x.feed(0x2020202020202020L, 0x2020202020202020L, 0x2020202020202020L), 1000);
        Check.due("the last sign is the first that came", x.town(), 1 + 16 * 999);
        Check.due("a fault takes it", x.count(10), 0);
        Check.due("there is room again", x.feed(0x0A00000000000000L, 0, 0), 1);
        Check.due("no fault", x.town(), 0);
        Check.due("that takes it too", x.count(10), 0);
        Check.due("left out signs take no place", withBlanks(999).feed(-1, 0, 0x7F00000000000941L), 1000);
        ShadySide y = withBlanks(995);
        Check.due("five more", Check.feed(y, "house"), 1000);
        Check.due("the end is at 1000", y.town(), 1 + 16 * 1000);
        StringBuilder trees = new StringBuilder();
        for (int s = 0; s < 100; s++) {
            trees.append("tree").append(s % 10).append(' ').append(s / 10).append(" 1;");
        }
        ShadySide z = new ShadySide();
        Check.due("1,000 signs", Check.feed(z, trees.toString()), 1000);
        Check.due("are a town", z.town(), 0);
        Check.due("a tree on each square", z.count(1), 100);
        Check.due("no place for a spot", z.spot(99), -1);
        Check.due("1,001 signs", Check.feed(z, " " + trees), 1000);
        Check.due("the last one is missing", z.town(), 1 + 16 * 1000);
        Check.due("all trees stay", z.count(1), 100);
        Check.due("an empty tape", z.town(), 0);
        Check.due("is an empty town", z.count(1), 0);
    }

    private static void fault(String text, int kind, int place) {
        Check.due("fault of " + text, Check.town(new ShadySide(), text), kind == 0 ? 0 : kind + 16 * place);
    }

    /** "letters a .. z, 9 at most", "1 to 4 digits", "a letter may stand right behind", "at its first sign". */
    private static void tokens() {
        for (String direction : new String[] {"northeast", "southeast", "southwest", "northwest"}) {
            fault("sun 0 from 0 " + direction + " 1 over 1;", 0, 0);
            fault("sun 0 from 0 " + direction + "s 1 over 1;", 1, 13);
        }
        fault("walkerwalker", 1, 0);
        fault("aaaaaaaaa 1", 1, 0);
        fault("aaaaaaaaaa 1", 1, 0);
        fault("arcade 1 2;aaaaaaaaaaaa", 1, 11);
        fault("arcade 0001 0009;", 0, 0);
        fault("arcade 00001 2;", 1, 7);
        fault("arcade 1 00002;", 1, 9);
        fault("awning 1 1 when 9999;", 0, 0);
        fault("awning 1 1 when 10000;", 1, 16);
        fault("awning 1 1 when 1+00000;", 1, 18);
        fault("awning 1 1when 9999and 0000or 1;", 0, 0);
        fault("awning 1 1when1and(minute)or(day)=1;", 0, 0);
        fault("awning1 1when1andnot1;", 1, 14);
        fault("arcade1 2;arcade3 4;", 0, 0);
        fault("arcade1a2;", 1, 7);
        fault(" \n arcade\n\n1 \n 2\n;\n ", 0, 0);
        for (char sign : " !\"#$%&'()*+,-./0:;<=>?@AZ[\\]^_`az{|}~".toCharArray()) {
            fault("" + sign, sign == ' ' ? 0 : 1, 0);
        }
        for (char sign : "!\"#$%&',./:>?@AZ[\\]^_`{|}~".toCharArray()) {
            fault("awning 1 1 when 1" + sign, 1, 17);
            fault("awning 1 1 when " + sign, 1, 16);
        }
        for (char sign : "<=+-*".toCharArray()) {
            fault("awning 1 1 when 1" + sign, 1, 18);
            fault("awning 1 1 when 1" + sign + "1;", 0, 0);
            fault("awning 1 1 when 1" + sign + sign + "1;", 1, 18);
        }
    }

    /** "20 together at most", "10 at most, on any SQUARE", "24 at most", "walker 0 to 5". */
    private static void limits() {
        String[] lines = {"awning 9 9 when 1;", "shut 9 9 when 1;"};
        for (int awnings = 0; awnings <= 20; awnings++) {
            String text = lines[0].repeat(awnings) + lines[1].repeat(20 - awnings);
            ShadySide x = Check.made(text);
            Check.due("awnings", x.count(3), awnings);
            Check.due("shut lines", x.count(4), 20 - awnings);
            fault(text + lines[awnings % 2], 5, text.length());
            fault(text + "shut", 5, text.length());
            fault(text + "awning;", 5, text.length());
            fault(text + "awnings;", 1, text.length());
        }
        String water = "house 1 1 5;tree 2 2 5;arcade 3 3;water 1 1;water 2 2;water 3 3;" + "water 9 9;".repeat(7);
        Check.due("ten lines of water", Check.made(water).count(11), 10);
        fault(water + "water 99", 5, water.length());
        StringBuilder suns = new StringBuilder("sun 3 from 0 east 1 over 1;");
        for (int i = 1; i < 24; i++) {
            suns.append("sun 3 from ").append(96 + i).append(" east 1 over 1;");
        }
        Check.due("24 sun lines of one day", Check.made(suns.toString()).count(5), 24);
        fault(suns + "sun 0 from 0 east 1 over 1;", 5, suns.length());
        StringBuilder walkers = new StringBuilder();
        for (int i = 0; i < 6; i++) {
            walkers.append("walker ").append(5 - i).append(" pace 1 bears 1 mends 1 ice 0 hot 0 cool 0;");
        }
        Check.due("six walkers", Check.made(walkers.toString()).count(6), 6);
        fault(walkers + "walker 6", 4, walkers.length() + 7);
        for (int i = 0; i < 6; i++) {
            fault(walkers + "walker " + i, 3, walkers.length() + 7);
        }
    }

    private static String walker(String... with) {
        String[] words = {"pace", "bears", "mends", "ice", "hot", "cool"};
        StringBuilder text = new StringBuilder("walker 0");
        for (String word : words) {
            String value = word.equals("ice") || word.equals("hot") || word.equals("cool") ? "0" : "1";
            for (int i = 0; i + 1 < with.length; i += 2) {
                value = with[i].equals(word) ? with[i + 1] : value;
            }
            text.append(' ').append(word).append(' ').append(value);
        }
        return text + ";";
    }

    /** The bounds of each NUMBER: the least and the most are no fault, one less and one more are 4. */
    private static void wholeNumbers() {
        String[][] texts = {{"house # 0 1;", "0", "9"}, {"house 0 # 1;", "0", "9"}, {"house 0 0 #;", "1", "99"},
            {"tree # 0 1;", "0", "9"}, {"tree 0 # 1;", "0", "9"}, {"tree 0 0 #;", "1", "99"},
            {"arcade # 0;", "0", "9"}, {"arcade 0 #;", "0", "9"}, {"awning # 0 when 1;", "0", "9"},
            {"awning 0 # when 1;", "0", "9"}, {"shut # 0 when 1;", "0", "9"}, {"shut 0 # when 1;", "0", "9"},
            {"water # 0;", "0", "9"}, {"water 0 #;", "0", "9"}, {"sun # from 0 east 1 over 1;", "0", "3"},
            {"sun 0 from # east 1 over 1;", "0", "119"}, {"sun 0 from 0 east # over 1;", "1", "99"},
            {"sun 0 from 0 east 1 over #;", "1", "99"}, {walker().replace("walker 0", "walker #"), "0", "5"},
            {walker("pace", "#"), "1", "3"}, {walker("bears", "#"), "1", "99"}, {walker("mends", "#"), "1", "99"},
            {walker("ice", "#"), "0", "9999"}, {walker("hot", "#"), "0", "99"}, {walker("cool", "#"), "0", "99"}};
        for (String[] row : texts) {
            int low = Integer.parseInt(row[1]);
            int high = Integer.parseInt(row[2]);
            int place = row[0].indexOf('#');
            fault(row[0].replace("#", row[1]), 0, 0);
            fault(row[0].replace("#", row[2]), 0, 0);
            fault(row[0].replace("#", "9999"), high < 9999 ? 4 : 0, place);
            fault(row[0].replace("#", "10000"), 1, place);
            fault(row[0].replace("#", "-1"), 1, place);
            fault(row[0].replace("#", "pace"), 1, place);
            if (low > 0) {
                fault(row[0].replace("#", "" + (low - 1)), 4, place);
            }
            if (high < 9999) {
                fault(row[0].replace("#", "" + (high + 1)), 4, place);
            }
        }
    }

    /** "ints wrap": of +, - and *, up and down. */
    private static void wraps() {
        String least = "4096*4096*128";
        String[] so = {"4096*4096*256=0", least + "<0", "0<" + least + "-1", least + "-1+1<0", "0-" + least + "<0",
            least + "+" + least + "=0", least + "=0-" + least, "0-" + least + "+1<0", "9999*9999*22<0",
            "0<9999*9999*21", "not(4096*4096*256)", "4096*4096*255<0", "0<4096*4096*127",
            "0-" + least + "-1=" + least + "-1", "0<0-" + least + "-1"};
        for (String e : so) {
            ShadySide x = Check.made("shut 1 1 when " + e + ";shut 2 1 when not(" + e + ");");
            Check.due(e, x.shutAt(0, 0, 11), 1);
            Check.due("not " + e, x.shutAt(0, 0, 12), 0);
        }
        ShadySide y = Check.made("shut 1 1 when 4096*4096*256;shut 2 1 when minute-119;shut 3 1 when 3-day;"
                + "shut 4 1 when minute-60=0-60;shut 5 1 when day*day*day=27;");
        Check.due("wraps to nothing", y.shutAt(3, 119, 11), 0);
        Check.due("minute 119", y.shutAt(0, 119, 12), 0);
        Check.due("minute 118", y.shutAt(0, 118, 12), 1);
        Check.due("minute 0", y.shutAt(0, 0, 12), 1);
        Check.due("day 3", y.shutAt(3, 0, 13), 0);
        Check.due("day 0", y.shutAt(0, 0, 13), 1);
        Check.due("below nothing", y.shutAt(0, 0, 14), 1);
        Check.due("below nothing", y.shutAt(0, 1, 14), 0);
        Check.due("three times three times three", y.shutAt(3, 0, 15), 1);
    }

    // ---- shade

    /** "from that MINUTE or ahead", "k steps (1 or more)", "above k * A", "Nothing stands beyond the town". */
    private static void shade() {
        ShadySide x = Check.made("sun 0 from 119 east 1 over 1;sun 1 from 0 east 1 over 1;sun 2 from 118 east 9 over 1;"
                + "sun 2 from 119 west 1 over 9;house 5 5 9;");
        Check.due("no line yet", x.shade(0, 118, 0), 1);
        Check.due("from the last minute", x.shade(0, 119, 0), 0);
        Check.due("from the first minute", x.shade(1, 0, 0), 0);
        Check.due("the first of two", x.shade(2, 118, 56), 0);
        Check.due("the last of two", x.shade(2, 119, 56), 1);
        Check.due("a day without a line", x.shade(3, 119, 0), 1);
        for (int height = 1; height <= 99; height++) {
            ShadySide y = Check.made("tree 0 0 " + height + ";sun 0 from 0 west 2 over 1;sun 0 from 1 west 7 over 9;"
                    + "sun 1 from 0 west 99 over 1;sun 1 from 1 west 1 over 99;sun 2 from 0 north 99 over 99;");
            for (int k = 1; k <= 9; k++) {
                Check.due("2 over 1", y.shade(0, 0, k), height > 2 * k ? 1 : 0);
                Check.due("7 over 9", y.shade(0, 1, k), height * 9 > 7 * k ? 1 : 0);
                Check.due("99 over 1", y.shade(1, 0, k), height > 99 * k ? 1 : 0);
                Check.due("1 over 99", y.shade(1, 1, k), 1);
                Check.due("99 over 99", y.shade(2, 0, 10 * k), height > k ? 1 : 0);
            }
            Check.due("the next row", y.shade(1, 1, 10), 0);
            Check.due("the tree itself", y.shade(1, 0, 0), 1);
        }
        int[] corners = {0, 9, 90, 99};
        for (int corner : corners) {
            ShadySide z = Check.made("house " + corner % 10 + " " + corner / 10 + " 99;sun 0 from 0 north 1 over 99;"
                    + "sun 0 from 1 northeast 1 over 99;sun 0 from 2 east 1 over 99;sun 0 from 3 southeast 1 over 99;"
                    + "sun 0 from 4 south 1 over 99;sun 0 from 5 southwest 1 over 99;sun 0 from 6 west 1 over 99;"
                    + "sun 0 from 7 northwest 1 over 99;");
            int right = corner % 10 == 0 ? 9 : 0;
            int below = corner < 10 ? 9 : 0;
            int[] many = {below, Math.min(9 - right, below), 9 - right, Math.min(9 - right, 9 - below), 9 - below,
                Math.min(right, 9 - below), right, Math.min(right, below)};
            for (int i = 0; i < 8; i++) {
                Check.due("shade of corner " + corner + " in " + i, z.dim(0, i), many[i]);
                Check.due("a house is not in its own", z.shade(0, i, corner), 0);
            }
        }
    }

    /** "From a MINUTE on": that MINUTE too, MINUTE 119 too, none ahead of it. */
    private static void when() {
        ShadySide x = Check.made("sun 0 from 0 north 1 over 1;awning 1 1 when minute=119;awning 2 1 when minute<119;"
                + "awning 3 1 when minute=60;sun 1 from 119 north 1 over 1;");
        Check.due("in the last minute alone", x.when(0, 0, 11, true), 119);
        Check.due("in the last minute, from it", x.when(0, 119, 11, true), 119);
        Check.due("light ahead of it", x.when(0, 118, 11, false), 118);
        Check.due("no light from it", x.when(0, 119, 11, false), -1);
        Check.due("light in the last minute alone", x.when(0, 0, 12, false), 119);
        Check.due("no shade from it", x.when(0, 119, 12, true), -1);
        Check.due("from the minute itself", x.when(0, 60, 13, true), 60);
        Check.due("from the one behind it", x.when(0, 61, 13, true), -1);
        Check.due("the sun in the last minute", x.when(1, 0, 0, false), 119);
        Check.due("shade at first", x.when(1, 0, 0, true), 0);
        Check.due("never sun", x.when(2, 0, 0, false), -1);
        Check.due("an empty town", new ShadySide().when(3, 119, 99, true), 119);
        Check.due("an empty town", new ShadySide().dim(3, 119), 100);
    }

    // ---- steps

    /** "not behind MINUTE 119": a STEP of so many minutes may end in it, and not behind it. */
    private static void steps() {
        ShadySide x = Check.made(SUNNY + WALKERS);
        for (int walker = 0; walker < 3; walker++) {
            int w = walker;
            int pace = walker + 1;
            Check.due("comes in 119", x.least(w, 0, 119 - pace, 44, 45, 1), 119);
            Check.due("each minute of the step", x.least(w, 0, 119 - pace, 44, 45, 0), pace);
            Check.due("two steps", x.least(w, 0, 119 - 2 * pace, 44, 46, 0), 2 * pace);
            Check.due("the soonest", x.soon(w, 0, 119 - pace, 44, 45, pace), 119);
            Check.due("less sun than that", x.soon(w, 0, 119 - pace, 44, 45, pace - 1), -1);
            Check.due("bears", x.bears(w, 0, 119 - pace, 44, 45), 119);
            Check.due("ice", x.ice(w, 0, 119 - pace, 44, 45), 100 - 5 * pace);
            Check.due("both", x.both(w, 0, 119 - pace, 44, 45, 0, 1), pace);
            Check.due("pays", x.pays(w, 0, 119 - pace, 44, 45), 0);
            Check.due("leave, the last one", x.leave(w, 0, 119 - pace, 119, 44, 45, 2), 119 - pace);
            Check.due("hours", x.hours(w, 0, 44, 45), 120 - pace);
            Check.due("leave from one too late", x.leave(w, 0, 120 - pace, 119, 44, 45, 0), -1);
            Check.none("one minute too late", () -> x.least(w, 0, 120 - pace, 44, 45, 0));
            Check.none("two steps, too late", () -> x.least(w, 0, 120 - 2 * pace, 44, 46, 0));
            Check.due("too late", x.soon(w, 0, 120 - pace, 44, 45, MAX), -1);
            Check.due("too late", x.bears(w, 0, 120 - pace, 44, 45), -1);
            Check.due("too late", x.ice(w, 0, 120 - pace, 44, 45), -1);
            Check.due("too late", x.both(w, 0, 120 - pace, 44, 45, 0, 0), -1);
            Check.due("too late", x.pays(w, 0, 120 - pace, 44, 45), -1);
            Check.due("too late", x.piece(w, 0, 120 - pace, 44, 45, 0), -1);
            Check.due("in time", x.piece(w, 0, 119 - pace, 44, 45, 0), 1);
            Check.due("the end of the way", x.piece(w, 0, 119 - pace, 44, 45, 1), -1);
        }
        ShadySide y = Check.made(WALKERS + "house 4 6 1;house 5 6 1;house 6 6 1;house 7 6 1;house 8 6 1;house 9 6 1;"
                + "house 0 7 1;house 1 7 1;house 2 7 1;shut 3 7 when minute<40;");
        Check.due("one way out of most squares, late", y.least(0, 0, 0, 0, 99, 1), 48);
        Check.due("in the last minute", y.least(0, 0, 110, 1, 73, 1), 119);
        int[][] corners = {{0, 1, 10}, {9, 8, 19}, {90, 91, 80}, {99, 98, 89}};
        for (int[] c : corners) {
            for (int goal = 0; goal < 100; goal++) {
                int to = goal;
                boolean next = goal == c[1] || goal == c[2];
                Check.due("one step from " + c[0] + " to " + goal,
                        Check.orElse(() -> x.least(0, 0, 118, c[0], to, 1), -1), next ? 119 : goal == c[0] ? 118 : -1);
            }
        }
    }

    /** "It can't be come to then": in that MINUTE and no other; who is there may stay, begin and leave. */
    private static void shutMinutes() {
        ShadySide x = Check.made(WALKERS + "shut 5 4 when minute=10;shut 9 9 when minute=119;shut 0 0 when 1;"
                + "house 0 1 1;");
        for (int walker = 0; walker < 3; walker++) {
            int w = walker;
            int pace = walker + 1;
            Check.due("in the minute ahead of it", x.soon(w, 0, 9 - pace, 44, 45, 0), 9);
            Check.due("in that minute, not", x.soon(w, 0, 10 - pace, 44, 45, 0), 11);
            Check.due("in the minute behind it", x.soon(w, 0, 11 - pace, 44, 45, 0), 11);
            Check.due("in the last minute", x.soon(w, 0, 118 - pace, 98, 99, 0), 118);
            Check.due("it stays shut", x.soon(w, 0, 119 - pace, 98, 99, 0), -1);
            Check.none("it stays shut", () -> x.least(w, 0, 119 - pace, 98, 99, 0));
            Check.due("at once", x.soon(w, 0, 119, 99, 99, 0), 119);
            Check.due("from a shut one", x.soon(w, 0, 0, 0, 1, 0), pace);
            Check.due("not back to it", x.soon(w, 0, 0, 1, 0, 0), -1);
            Check.due("hours", x.hours(w, 0, 1, 0), 0);
            Check.due("dark", x.dark(w, 0, 1, 0, 0), 0);
            Check.due("it is there", x.dark(w, 0, 0, 0, 0), 120);
        }
    }

    /** The first pair, the last one, the one behind it; the least SUN and one less. */
    private static void pairs() {
        ShadySide x = Check.made(SUNNY + WALKERS + "arcade 0 1;arcade 1 1;arcade 2 1;arcade 3 1;arcade 4 1;arcade 5 1;");
        int[][] due = {{5, 5}, {7, 1}};
        for (int i = 0; i < 2; i++) {
            Check.due("pair " + i, x.both(0, 0, 0, 0, 5, i, 0), due[i][0]);
            Check.due("pair " + i, x.both(0, 0, 0, 0, 5, i, 1), due[i][1]);
        }
        Check.due("behind the last", x.both(0, 0, 0, 0, 5, 2, 0), -1);
        Check.due("ahead of the first", x.both(0, 0, 0, 0, 5, -1, 0), -1);
        int[] soon = {-1, -1, 7, 7, 7, 7, 5, 5};
        for (int sun = -1; sun < 7; sun++) {
            Check.due("with sun " + sun, x.soon(0, 0, 0, 0, 5, sun), soon[sun + 1]);
        }
        Check.due("the last piece", x.piece(0, 0, 0, 0, 5, 6), 0);
        Check.due("behind the last piece", x.piece(0, 0, 0, 0, 5, 7), -1);
        Check.due("ahead of the first piece", x.piece(0, 0, 0, 0, 5, -1), -1);
    }

    // ---- bodies

    /** "never above bears", "0 at least", "by a STEP". */
    private static void heat() {
        for (int bears = 1; bears <= 8; bears++) {
            ShadySide x = Check.made(SUNNY + walker("bears", "" + bears));
            Check.due("as much as he bears", x.bears(0, 0, 0, 0, bears), bears);
            Check.due("one more", x.bears(0, 0, 0, 0, bears + 1), -1);
            Check.due("hours", x.hours(0, 0, 0, bears), 120 - bears);
            Check.due("hours of one more", x.hours(0, 0, 0, bears + 1), 0);
        }
        ShadySide most = Check.made("sun 0 from 20 north 1 over 1;" + walker("bears", "99", "pace", "3"));
        Check.due("99 minutes", most.bears(0, 0, 17, 0, 79), 17 + 48);
        Check.due("hours of who bears all", most.hours(0, 0, 0, 99), 120 - 54);
        for (String mends : new String[] {"2", "3", "99"}) {
            ShadySide y = Check.made(SUNNY + "arcade 2 0;" + walker("bears", "3", "mends", mends));
            Check.due("not below nothing: " + mends, y.bears(0, 0, 0, 0, 6), 6);
            Check.due("four are too many: " + mends, y.bears(0, 0, 0, 0, 7), -1);
            Check.due("hours", y.hours(0, 0, 0, 6), 114);
            y.tell(1);
            y.tell(1);
            y.tell(1);
            y.tell(1);
            Check.due("the greatest", y.judged(0, 0, 0, 0, 3), 2);
            y.tell(1);
            y.tell(1);
            Check.due("the greatest behind it", y.judged(0, 0, 0, 0, 3), 3);
        }
        ShadySide w = Check.made(SUNNY + "water 0 0;water 3 0;water 4 0;" + walker("bears", "3"));
        Check.due("to the water", w.bears(0, 0, 0, 0, 3), 3);
        Check.due("and three more", w.bears(0, 0, 0, 0, 7), 7);
        Check.due("not four more", w.bears(0, 0, 0, 0, 8), -1);
        Check.due("water at first is nothing", w.bears(0, 0, 0, 0, 30), 3);
        Check.due("water at first is nothing", w.bears(0, 0, 0, 0, 40), -1);
        Check.due("hours to the water", w.hours(0, 0, 0, 3), 117);
        Check.due("hours behind it", w.hours(0, 0, 0, 8), 0);
        ShadySide v = Check.made(SUNNY + "water 1 0;" + walker("bears", "2", "pace", "3"));
        Check.due("too much ahead of the water", v.bears(0, 0, 0, 0, 1), -1);
        Check.due("hours", v.hours(0, 0, 0, 1), 0);
    }

    /** "the most that is left (0 at least)". */
    private static void ice() {
        int[][] due = {{8, 0}, {9, 0}, {10, 1}, {0, 0}, {9999, 9990}};
        for (int[] row : due) {
            ShadySide x = Check.made(SUNNY + walker("ice", "" + row[0], "hot", "9", "cool", "3"));
            Check.due("ice of " + row[0], x.ice(0, 0, 0, 0, 1), row[1]);
            x.tell(1);
            Check.due("judged of " + row[0], x.judged(0, 0, 0, 0, 4), row[1]);
        }
        ShadySide y = Check.made(walker("ice", "9999", "hot", "99", "cool", "99"));
        Check.due("101 minutes at most", y.ice(0, 0, 0, 0, 99), 9999 - 18 * 99);
        for (int i = 0; i < 60; i++) {
            y.tell(4);
        }
        Check.due("60 minutes", y.judged(0, 0, 0, 0, 4), 9999 - 60 * 99);
        ShadySide z = Check.made(SUNNY + walker("ice", "9999", "hot", "0", "cool", "99") + "arcade 0 0;");
        Check.due("hot is nothing", z.ice(0, 0, 0, 1, 9), 9999);
        Check.due("cool is", z.ice(0, 0, 0, 0, 9), 9900);
    }

    /** "a CHANCE of ten (0 to 10)", "within T MINUTES (1 to 12)". */
    private static void guessed() {
        ShadySide x = Check.made(SUNNY + WALKERS);
        for (int t = 1; t <= 12; t++) {
            int steps = t;
            int to = 10 * Math.max(0, t - 9) + Math.min(9, t);
            Check.due("in so many, above", x.guessed(0, 0, 0, 0, to, 0, t, 0), steps);
            Check.due("in so many, below", x.guessed(0, 0, 0, 0, to, 0, t, 1), 1);
            Check.due("never sun, above", x.guessed(0, 0, 0, 0, to, 10, t, 0), 0);
            Check.due("never sun, below", x.guessed(0, 0, 0, 0, to, 10, t, 1), 1);
            if (t > 1) {
                Check.none("in one less", () -> x.guessed(0, 0, 0, 0, to, 5, steps - 1, 0));
            }
        }
        Check.none("12 are not enough", () -> x.guessed(0, 0, 0, 0, 49, 5, 12, 0));
        Check.due("to the last minute", x.guessed(0, 0, 107, 0, 39, 0, 12, 0), 12);
        Check.none("and not behind it", () -> x.guessed(0, 0, 108, 0, 39, 0, 12, 0));
        Check.due("T may be behind it", x.guessed(0, 0, 118, 0, 1, 0, 12, 0), 1);
        long[][] lowest = {{0, 2, 1}, {1, 9, 5}, {2, 8, 5}, {3, 7, 5}, {4, 6, 5}, {5, 1, 1}, {6, 4, 5}, {7, 3, 5},
            {8, 2, 5}, {9, 1, 5}, {10, 0, 1}};
        for (long[] row : lowest) {
            Check.due("above of " + row[0], x.guessed(0, 0, 0, 0, 2, (int) row[0], 12, 0), row[1]);
            Check.due("below of " + row[0], x.guessed(0, 0, 0, 0, 2, (int) row[0], 12, 1), row[2]);
        }
    }

    // ---- crowds and spots

    /** "n (1 to 8)", "so much (0 to 9)", "to come by a MINUTE", "who has come is nowhere". */
    private static void crowd() {
        ShadySide x = Check.made(SUNNY + WALKERS);
        for (int n = 1; n <= 8; n++) {
            int many = n;
            for (int each = 0; each <= 9; each++) {
                int cost = 1 + each * (n - 1);
                int[] due = {n * cost, n, 1, cost};
                for (int what = 0; what < 4; what++) {
                    Check.due("crowd " + n + " " + each + " " + what, x.crowd(0, 0, 7, 44, 45, 8, n, each, what),
                            due[what]);
                }
                Check.due("price " + n + " " + each, x.price(0, 0, 7, 44, 45, 8, n, each), n * (cost - 1));
            }
            Check.none("in no time", () -> x.crowd(0, 0, 7, 44, 45, 7, many, 1, 0));
            Check.none("in no time", () -> x.price(0, 0, 7, 44, 45, 7, many, 1));
            Check.due("in the last minute", x.crowd(0, 0, 118, 44, 45, 119, many, 0, 1), n);
        }
        ShadySide y = Check.made("house 1 1 1;house 0 1 1;" + WALKERS);
        Check.due("one comes, one waits", y.crowd(0, 0, 0, 0, 2, 3, 2, 1, 0), 2);
        Check.due("the greatest of three", y.crowd(0, 0, 0, 0, 2, 3, 3, 1, 3), 3);
        Check.due("by the last minute", y.crowd(0, 0, 117, 0, 2, 119, 2, 1, 0), 4);
        Check.none("too late", () -> y.crowd(0, 0, 118, 0, 2, 119, 2, 1, 0));
    }

    /** "8 at most", "so many (1 to 8) at most", "of equal ones the fewest, then the least as bits". */
    private static void spots() {
        ShadySide x = Check.made(SUNNY + WALKERS);
        Check.due("none is told", x.spots(0, 0, 0, 0, 8, 1, 8, 0), 0);
        for (int i = 0; i < 8; i++) {
            Check.due("the set of none more", x.spots(0, 0, 0, 0, 8, 1, 8, 0), (1 << i) - 1);
            Check.due("spot " + i, x.spot(i), i);
            Check.due("count", x.count(7), i + 1);
        }
        Check.due("all places are taken", x.spot(8), -1);
        Check.due("all places are taken", x.spot(99), -1);
        Check.due("count", x.count(7), 8);
        for (int many = 1; many <= 8; many++) {
            Check.due("the least as bits of " + many, x.spots(0, 0, 0, 0, 8, 1, many, 0), (1 << many) - 1);
            Check.due("the least of " + many, x.spots(0, 0, 0, 0, 8, 1, many, 1), 8 - many);
        }
        Check.due("the fewest", x.spots(0, 0, 0, 5, 7, 1, 8, 0), 32 + 64);
        Check.due("none is needed", x.spots(0, 0, 0, 5, 5, 1, 8, 0), 0);
        Check.due("the most high", x.spots(0, 0, 0, 17, 18, 99, 1, 0), 128);
        Check.due("too low", x.spots(0, 0, 0, 17, 18, 9, 1, 0), 0);
        Check.due("too low", x.spots(0, 0, 0, 17, 18, 9, 1, 1), 1);
        Check.due("just high enough", x.spots(0, 0, 0, 17, 18, 10, 1, 1), 0);
        Check.due("another town has none", Check.town(x, TOWN) == 0 && x.count(7) == 0, true);
        for (int s : new int[] {55, 9, 90, -1, 100, MIN, MAX}) {
            Check.due("something is on it, or no square: " + s, x.spot(s), -1);
        }
        Check.due("on water, below an awning, where it is shut", x.spot(88) + x.spot(66) + x.spot(33), 0 + 1 + 2);
        Check.due("it is one", x.spot(88), -1);
        Check.due("count", x.count(7), 3);
        Check.due("a pulled house", x.pull(55) && x.spot(55) == 3, true);
        Check.due("no house any more", x.pull(55), false);
        ShadySide y = Check.made(SUNNY + WALKERS);
        Check.due("none helps", y.plant(0, 0, 0, 44, 44, 99, 0), -1);
        Check.due("the first by Y, then X", y.plant(0, 0, 0, 99, 98, 99, 0), 9);
        Check.due("the least height", y.plant(0, 0, 0, 99, 98, 1, 0), 99);
        Check.due("just too low for a step", y.plant(0, 0, 0, 99, 98, 9, 0), 99);
        Check.due("just high enough for a step", y.plant(0, 0, 0, 99, 98, 10, 0), 89);
        Check.due("by as much as the pace", y.plant(2, 0, 0, 99, 98, 1, 1), 3);
    }

    // ---- processions and told ways

    /** "30 at most", "behind MINUTE 119", "from one to another one". */
    private static void procession() {
        ShadySide x = Check.made(SUNNY + "sun 2 from 50 south 9 over 1;" + WALKERS);
        Check.due("none yet", x.parade(0, 0, 1), -1);
        Check.due("none yet", x.start(0, 0, 119, 1), -1);
        for (int i = 0; i < 30; i++) {
            Check.due("follow", x.follow(i % 20 < 10 ? i % 10 + 10 * (i / 10) : 9 - i % 10 + 10 * (i / 10)), i + 1);
        }
        Check.due("30 are there", x.follow(39), -1);
        Check.due("30 are there", x.follow(30), -1);
        Check.due("count", x.count(8), 30);
        for (int pace = 1; pace <= 3; pace++) {
            int last = 119 - 29 * pace;
            Check.due("to the last minute", x.parade(0, last, pace), 29 * pace);
            Check.due("behind it", x.parade(0, last + 1, pace), -1);
            Check.due("the last that can be", x.start(0, last, 119, pace), last);
            Check.due("the last that can be alone", x.start(0, last, last, pace), last);
            Check.due("none that can be", x.start(0, last + 1, 119, pace), -1);
            Check.due("of equal ones the first", x.start(0, 3, last, pace), 3);
            Check.due("none between", x.start(0, 4, 3, pace), -1);
        }
        Check.due("cleared", x.clear(), true);
        Check.due("none", x.parade(0, 0, 1), -1);
        Check.due("one", x.follow(99), 1);
        Check.due("the same is not next", x.follow(99), -1);
        Check.due("one square is no way", x.parade(0, 119, 3), 0);
        Check.due("one square", x.start(0, 119, 119, 3), 119);
        Check.due("two", x.follow(98), 2);
        for (int pace = 1; pace <= 3; pace++) {
            Check.due("one step", x.parade(0, 119 - pace, pace), pace);
            Check.due("too late", x.parade(0, 120 - pace, pace), -1);
        }
        for (int s : new int[] {98, 96, 87, 89, 78, 9, 100, 108, -1, MIN, MAX}) {
            Check.due("not next to it: " + s, x.follow(s), -1);
        }
        Check.due("count", x.count(8), 2);
        Check.due("back again", x.follow(99), 3);
        ShadySide y = Check.made("sun 0 from 0 north 9 over 1;awning 0 0 when 1<minute and minute<118;" + WALKERS);
        y.follow(0);
        y.follow(1);
        Check.due("the last minute is the best", y.start(0, 0, 2, 1), 2);
        Check.due("one less", y.start(0, 0, 1, 1), 0);
        Check.due("the best of some", y.start(0, 115, 118, 1), 115);
        Check.due("pace 3", y.start(0, 0, 119, 3), 2);
    }

    private static void judge(ShadySide x, int walker, int minute, int from, int... due) {
        for (int what = 0; what < due.length; what++) {
            Check.due("judged " + walker + " from " + from + " in " + minute + " what " + what,
                    x.judged(walker, 0, minute, from, what), due[what]);
        }
    }

    /** "60 at most", "1 out of the town, 2 a house, 3 behind MINUTE 119, 4 SHUT", "all can". */
    private static void told() {
        String text = SUNNY + WALKERS + "house 4 5 9;shut 5 4 when minute=10;";
        ShadySide x = Check.made(text);
        judge(x, 0, 119, 44, -1, 0, 0, 0, 100, 119, 44);
        for (int i = 1; i <= 60; i++) {
            Check.due("tell", x.tell(4), i);
        }
        for (int piece = 0; piece <= 4; piece++) {
            Check.due("60 are there", x.tell(piece), -1);
        }
        Check.due("count", x.count(9), 60);
        judge(x, 0, 59, 44, -1, 0, 60, 60, 0, 119, 44);
        judge(x, 0, 60, 44, 59, 3, 59, 59, 0, 119, 44);
        judge(x, 2, 119, 44, 0, 3, 0, 0, 100, 119, 44);
        Check.due("cleared", x.clear() && x.count(9) == 0, true);
        Check.due("cleared once more", x.clear(), true);
        int[][] edges = {{0, 4, 0}, {1, 49, 9}, {2, 94, 99}, {3, 40, 90}};
        for (int[] e : edges) {
            ShadySide y = Check.made(text);
            Check.due("the first", y.tell(e[0]), 1);
            judge(y, 0, 0, e[1], 0, 1, 0, 0, 100, 0, e[1]);
            judge(y, 0, 119, e[2], 0, 1, 0, 0, 100, 119, e[2]);
        }
        ShadySide z = Check.made(text);
        z.tell(2);
        judge(z, 0, 0, 44, 0, 2, 0, 0, 100, 0, 44);
        judge(z, 2, 119, 44, 0, 2, 0, 0, 100, 119, 44);
        for (int walker = 0; walker < 3; walker++) {
            int pace = walker + 1;
            int left = 100 - 5 * pace;
            judge(z, walker, 119 - pace, 45, -1, 0, pace, pace, left, 119, 55);
            judge(z, walker, 120 - pace, 45, 0, 3, 0, 0, 100, 120 - pace, 45);
            judge(z, walker, 9 - pace, 35, -1, 0, pace, pace, left, 9, 45);
            judge(z, walker, 10 - pace, 35, 0, 4, 0, 0, 100, 10 - pace, 35);
            judge(z, walker, 11 - pace, 35, -1, 0, pace, pace, left, 11, 45);
        }
        z.clear();
        z.tell(4);
        judge(z, 0, 118, 45, -1, 0, 1, 1, 95, 119, 45);
        judge(z, 0, 119, 45, 0, 3, 0, 0, 100, 119, 45);
        judge(z, 0, 9, 45, -1, 0, 1, 1, 95, 10, 45);
        z.tell(2);
        z.tell(0);
        judge(z, 0, 118, 34, 1, 3, 1, 1, 95, 119, 34);
        judge(z, 0, 0, 34, -1, 0, 3, 3, 85, 3, 34);
    }

    // ---- errands, meetings, awnings, days

    /** "so many MINUTES (0 to 60)", "one can't be back". */
    private static void errand() {
        ShadySide x = Check.made(SUNNY + WALKERS);
        for (int walker = 0; walker < 3; walker++) {
            int w = walker;
            int pace = walker + 1;
            for (int stay : new int[] {0, 1, 59, 60}) {
                int last = 119 - stay - 2 * pace;
                Check.due("sun", x.errand(w, 0, last, 44, 45, stay, 0), stay + 2 * pace);
                Check.due("back in 119", x.errand(w, 0, last, 44, 45, stay, 1), 119);
                Check.due("back at once", x.errand(w, 0, 0, 44, 45, stay, 1), stay + 2 * pace);
                Check.none("too late", () -> x.errand(w, 0, last + 1, 44, 45, stay, 0));
                Check.due("on the same square", x.errand(w, 0, 119 - stay, 44, 44, stay, 0), stay);
                Check.due("back in 119", x.errand(w, 0, 119 - stay, 44, 44, stay, 1), 119);
                if (stay > 0) {
                    Check.none("no time to stay", () -> x.errand(w, 0, 120 - stay, 44, 44, stay, 0));
                }
            }
        }
    }

    /** "where both are in the same MINUTE", "of equal ones the soonest MINUTE, then the least SQUARE". */
    private static void meet() {
        ShadySide x = Check.made(SUNNY + WALKERS + "house 1 9 9;house 0 8 9;");
        int[] same = {0, 119, 99};
        int[] next = {1, 119, 98};
        int[] crossed = {2, 119, 88};
        int[] slow = {3, 119, 98};
        int[] quick = {2, 2, 98};
        for (int what = 0; what < 3; what++) {
            Check.due("at once " + what, x.meet(0, 99, 5, 99, 0, 119, what), same[what]);
            Check.due("one step " + what, x.meet(0, 99, 2, 98, 0, 118, what), next[what] + (what == 0 ? 1 : 0));
            Check.due("of two squares the least " + what, x.meet(0, 89, 5, 98, 0, 118, what), crossed[what]);
            Check.due("of two minutes the soonest " + what, x.meet(0, 99, 5, 97, 0, 1, what), quick[what]);
            int w = what;
            Check.none("no time " + what, () -> x.meet(0, 99, 1, 98, 0, 119, w));
            Check.none("nowhere " + what, () -> x.meet(0, 90, 0, 99, 0, 0, w));
            Check.none("no time for two steps each " + what, () -> x.meet(0, 99, 5, 79, 0, 119, w));
        }
        meetBeyond();
        Check.due("the slow one waits for the quick one", x.meet(2, 98, 0, 99, 0, 118, 0), slow[0] - 1);
        Check.due("in the last minute", x.meet(2, 98, 0, 99, 0, 118, 1), slow[1]);
        Check.due("where the slow one is", x.meet(2, 98, 0, 99, 0, 118, 2), slow[2]);
    }

    /** One goes through the SQUARE from which the other one has gone, as the shade lies behind it. */
    private static void meetBeyond() {
        ShadySide x = Check.made("sun 0 from 0 north 9 over 1;arcade 0 0;arcade 1 0;arcade 2 0;arcade 3 0;arcade 4 0;"
                + "arcade 8 0;house 4 1 1;house 5 1 1;house 6 1 1;house 7 1 1;house 8 1 1;house 9 1 1;"
                + "shut 5 0 when minute<10;shut 6 0 when not minute=11;" + WALKERS);
        int[] due = {8, 12, 7};
        for (int what = 0; what < 3; what++) {
            Check.due("beyond " + what, x.meet(0, 0, 2, 6, 0, 0, what), due[what]);
            Check.due("beyond, told the other way round " + what, x.meet(2, 6, 0, 0, 0, 0, what), due[what]);
        }
    }

    private static void cover() {
        ShadySide x = Check.made(SUNNY + WALKERS + "arcade 0 0;tree 1 0 9;house 0 1 9;house 1 1 9;");
        Check.due("none helps", x.cover(0, 0, 0, 0, 2, 0), -1);
        Check.due("by nothing", x.cover(0, 0, 0, 0, 2, 1), 0);
        Check.due("the first that helps", x.cover(0, 0, 0, 1, 3, 0), 2);
        Check.due("by one", x.cover(0, 0, 0, 1, 3, 1), 1);
        Check.due("the last square", x.cover(0, 0, 118, 99, 98, 0), 99);
        Check.due("by the pace", x.cover(2, 0, 116, 99, 98, 1), 3);
        Check.due("in the way", x.keeps(0, 0, 0, 0, 20, 10), 1 - 4);
        ShadySide y = Check.made(SUNNY + WALKERS + "house 4 3 10;house 5 9 1;");
        Check.due("its shade", y.keeps(0, 0, 0, 44, 45, 34), 1);
        Check.due("nothing", y.keeps(0, 0, 0, 44, 54, 95), 0);
        Check.due("below nothing", y.keeps(0, 0, 0, 94, 96, 95), -2);
        Check.due("it stands", y.count(0), 2);
    }

    /** "from its first sun line on", "EDGES in a MINUTE (1 to 119)", "of equal ones the first". */
    private static void days() {
        ShadySide x = Check.made("sun 0 from 119 north 9 over 1;sun 1 from 0 north 9 over 1;arcade 1 1;arcade 2 2;"
                + "awning 3 3 when minute=119;awning 4 4 when minute=119 or minute=1;sun 3 from 118 east 9 over 1;");
        Check.due("the last minute alone", x.broad(0, 0), 119);
        Check.due("how many", x.broad(0, 1), 4);
        Check.due("the last minute of all", x.broad(1, 0), 119);
        Check.due("how many", x.broad(1, 1), 4);
        Check.due("no sun line", x.broad(2, 0), -1);
        Check.due("no sun line", x.broad(2, 1), -1);
        Check.due("the last of two", x.broad(3, 0), 119);
        Check.due("come in the first", x.edges(1, 1, true), 1);
        Check.due("gone in the first", x.edges(1, 1, false), 0);
        Check.due("gone in the next", x.edges(1, 2, false), 1);
        Check.due("come in the last", x.edges(1, 119, true), 2);
        Check.due("gone in the last", x.edges(0, 119, false), 96);
        Check.due("the sun comes", x.edges(3, 118, false), 98);
        Check.due("no sun", x.edges(2, 1, true), 0);
        Check.due("no sun", x.edges(2, 119, false), 0);
        Check.due("minute 0 has none before", x.edges(1, 0, true), -1);
        ShadySide y = Check.made("sun 0 from 0 north 9 over 1;");
        Check.due("none in shade is the most", y.broad(0, 0), 0);
        Check.due("none", y.broad(0, 1), 0);
        Check.due("an empty town", new ShadySide().broad(0, 0), -1);
        ShadySide z = Check.made(SUNNY + WALKERS + "awning 9 9 when minute=119;awning 0 0 when minute=118;"
                + "awning 0 1 when minute=118;");
        Check.due("the last minute of two steps", z.leave(0, 0, 118, 118, 0, 1, 0), 118);
        Check.due("of the best", z.leave(0, 0, 0, 119, 0, 1, 0), 118);
        Check.due("one less", z.leave(0, 0, 0, 117, 0, 1, 0), 0);
        Check.due("the worst", z.leave(0, 0, 0, 119, 0, 1, 2), 0);
        Check.due("the worst ahead of the first", z.leave(0, 0, 5, 5, 0, 1, 2), 5);
        Check.due("its sun", z.leave(0, 0, 118, 119, 0, 1, 3), 0);
        Check.due("no trip", z.leave(0, 0, 119, 119, 0, 1, 2), -1);
        Check.due("dark in one minute", z.dark(0, 0, 0, 1, 0), 1);
        Check.due("dark, the first", z.dark(0, 0, 0, 1, 1), 118);
        Check.due("dark, the soonest", z.dark(0, 0, 0, 1, 2), 119);
        Check.due("never at pace 2", z.dark(1, 0, 0, 1, 0), 0);
        Check.due("never, no first", z.dark(1, 0, 0, 1, 1), -1);
        Check.due("never, no soonest", z.dark(1, 0, 0, 1, 2), -1);
    }

    // ---- marks, and the last call

    /** "MARKS 0 to 3", "nothing is on it": each by itself, and a refused one is none. */
    private static void marks() {
        ShadySide x = Check.made(TOWN);
        for (int mark = 0; mark < 4; mark++) {
            Check.due("nothing is on it", x.mark(mark, true), false);
        }
        for (int mark : new int[] {-1, 4, MIN, MAX}) {
            Check.due("none such", x.mark(mark, false), false);
            Check.due("none such", x.mark(mark, true), false);
        }
        for (int mark = 0; mark < 4; mark++) {
            x.spot(20 + mark);
            Check.due("laid", x.mark(mark, false), true);
            Check.due("the next one is not", x.mark(mark + 1, true), false);
        }
        x.spot(30);
        for (int mark = 3; mark >= 0; mark--) {
            Check.due("back", x.mark(mark, true), true);
            Check.due("as they were", x.count(7), mark + 1);
        }
        Check.due("the first free number", x.spot(30), 1);
        Check.due("another town", Check.town(x, ""), 0);
        Check.due("nothing is told", x.count(7) + x.count(0), 0);
        Check.due("marks stay", x.mark(3, true), true);
        Check.due("as they were", x.count(7), 4);
        Check.due("an empty town is a mark too", new ShadySide().mark(0, false), true);
    }

    /** "at most 512 calls": the last one is answered as the first. */
    private static void lastCall() {
        ShadySide x = new ShadySide();
        String text = TOWN + " ".repeat(1000 - TOWN.length());
        int calls = 0;
        while (calls + 43 <= 511) {
            Check.due("1,000 signs", Check.feed(x, text), 1000);
            Check.due("no fault", x.town(), 0);
            calls += 44;
        }
        while (calls < 511) {
            Check.due("least", x.least(0, 0, 60, 44, 99, 0), 10);
            calls++;
        }
        Check.due("the last call", x.crowd(0, 0, 60, 98, 99, 61, 8, 9, 0), 8 * 64);
    }
}

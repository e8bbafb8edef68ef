/** Each promise of the document by small towns whose answers are found by hand; the methods bear its calls' names. */
public final class PromiseTest {
    private static final String WALKERS = "walker 0 pace 1 bears 3 mends 1 ice 100 hot 5 cool 1;"
            + "walker 1 pace 2 bears 2 mends 2 ice 10 hot 9 cool 0;walker 2 pace 1 bears 2 mends 1 ice 0 hot 0 cool 0;";

    /** In the sun all of day 0, from minute 50 on day 2; arcades below the squares 0 to 3. */
    private static final String ARCADES = "sun 0 from 0 north 9 over 1;sun 2 from 50 north 9 over 1;"
            + "arcade 0 1;arcade 1 1;arcade 2 1;arcade 3 1;" + WALKERS;

    /** A house of 9 on square 1, its shade to the south from minute 10, to the east from minute 20. */
    private static final String HOUSE = "house 1 0 9;sun 0 from 10 north 1 over 1;sun 0 from 20 west 1 over 1;"
            + "sun 1 from 0 north 1 over 1;" + WALKERS;

    private static final int MIN = Integer.MIN_VALUE;
    private static final int MAX = Integer.MAX_VALUE;

    private PromiseTest() {
    }

    public static void main(String[] args) {
        newObject();
        feed();
        town();
        square();
        shade();
        when();
        dim();
        shutAt();
        trips();
        shutTrips();
        least();
        piece();
        soon();
        both();
        bears();
        hours();
        ice();
        pays();
        guessed();
        crowd();
        plant();
        spots();
        pull();
        dark();
        procession();
        told();
        rests();
        leave();
        errand();
        meet();
        cover();
        keeps();
        broad();
        edges();
        mark();
        wholeMark();
        count();
        oneAfterAnother();
        Check.end();
    }

    private static void newObject() {
        ShadySide x = new ShadySide();
        for (int what = 0; what <= 11; what++) {
            Check.due("count " + what, x.count(what), 0);
        }
        Check.due("NONE", ShadySide.NONE, -1);
        Check.due("all in shade", x.dim(3, 119), 100);
        Check.due("nothing told", x.town(), 0);
        Check.none("no walker", () -> x.least(0, 0, 0, 0, 0, 0));
    }

    private static void feed() {
        ShadySide x = new ShadySide();
        Check.due("nothing", x.feed(0, 0, 0), 0);
        Check.due("others are left out", x.feed(0x090A0B0C0D1F207EL, 0x7F80FF00FFFEFDFCL, -1L), 3);
        Check.due("fault of ~", x.town(), 1 + 16 * 2);
        Check.due("24", x.feed(0x686F757365203120L, 0x3220333B00000000L, 0), 12);
        Check.due("town", x.town(), 0);
        Check.due("the house", x.square(21, 1), 3);
        for (int i = 1; i <= 41; i++) {
            Check.due("blanks", x.feed(0x2020202020202020L, 0x2020202020202020L, 0x2020202020202020L), 24 * i);
        }
        Check.due("994", x.feed(0x2020202020202020L, 0x2020L, 0), 994);
        Check.due("1,000 at most", x.feed(0x2020202020204120L, 0x4141414141414141L, 0), 1000);
        Check.due("full", x.feed(0x4141414141414141L, 0, 0), 1000);
        Check.due("count of signs", x.count(10), 1000);
        Check.due("what was beyond is not read", x.town(), 0);
        Check.due("empty", x.count(10), 0);
    }

    private static void town() {
        ShadySide x = new ShadySide();
        Check.due("fault", Check.town(x, "house 1 2 3; tree 1 2 3;"), 3 + 16 * 20);
        Check.due("nothing is told", x.count(0), 0);
        Check.due("no fault", Check.town(x, "house 1 2 3;"), 0);
        Check.due("one house", x.count(0), 1);
        Check.due("the text in two parts", Check.feed(x, "tree 1 "), 7);
        Check.due("the text in two parts", Check.feed(x, "2 3;"), 11);
        Check.due("no fault", x.town(), 0);
        Check.due("no house", x.count(0), 0);
        Check.due("one tree", x.count(1), 1);
    }

    private static void square() {
        ShadySide x = Check.made("house 1 2 3;tree 9 0 99;arcade 0 9;awning 5 5 when 1;shut 5 5 when 1;water 5 5;");
        int[][] due = {{21, 1, 3}, {9, 2, 99}, {90, 3, 0}, {55, 0, 0}, {12, 0, 0}};
        for (int[] row : due) {
            Check.due("what is on " + row[0], x.square(row[0], 0), row[1]);
            Check.due("height on " + row[0], x.square(row[0], 1), row[2]);
        }
        for (int s : new int[] {-1, 100, MIN, MAX}) {
            Check.due("square " + s, x.square(s, 0), -1);
        }
        for (int what : new int[] {-1, 2, MIN, MAX}) {
            Check.due("what " + what, x.square(21, what), -1);
        }
    }

    private static void shade() {
        String things = "house 4 4 6;tree 7 7 2;arcade 0 0;awning 9 9 when minute<60;";
        String[] directions = {"north", "northeast", "east", "southeast", "south", "southwest", "west", "northwest"};
        int[] behind = {10, 9, -1, -11, -10, -9, 1, 11};
        for (int i = 0; i < 8; i++) {
            ShadySide x = Check.made(things + "sun 1 from 30 " + directions[i] + " 3 over 1;");
            Check.due("no line yet", x.shade(1, 29, 22), 1);
            Check.due("no line that day", x.shade(0, 119, 22), 1);
            Check.due("in the sun", x.shade(1, 30, 22 + (i % 4 == 3 ? 1 : 0)), 0);
            Check.due(directions[i] + " 1 step", x.shade(1, 30, 44 + behind[i]), 1);
            Check.due(directions[i] + " 2 steps are not enough", x.shade(1, 30, 44 + 2 * behind[i]), 0);
            Check.due(directions[i] + " ahead of it", x.shade(1, 30, 44 - behind[i]), 0);
            Check.due("a house's own square", x.shade(1, 30, 44), 0);
            Check.due("a tree's own square", x.shade(1, 119, 77), 1);
            Check.due("a tree too low", x.shade(1, 119, 77 + behind[i]), 0);
            Check.due("arcade", x.shade(1, 119, 0), 1);
            Check.due("awning", x.shade(1, 59, 99), 1);
            Check.due("awning no more", x.shade(1, 60, 99), 0);
        }
        ShadySide x = Check.made("house 0 0 99;house 5 5 1;sun 0 from 0 west 99 over 9;sun 0 from 1 west 10 over 99;");
        Check.due("8 steps", x.shade(0, 0, 8), 1);
        Check.due("9 steps", x.shade(0, 0, 9), 0);
        Check.due("far", x.shade(0, 1, 9), 1);
        Check.due("far", x.shade(0, 1, 59), 1);
        Check.due("the row's end is its end", x.shade(0, 1, 10), 0);
        int[][] wrong = {{-1, 0, 0}, {4, 0, 0}, {0, -1, 0}, {0, 120, 0}, {0, 0, -1}, {0, 0, 100}, {MIN, MIN, MIN},
            {MAX, MAX, MAX}};
        for (int[] w : wrong) {
            Check.due("shade of wrong", x.shade(w[0], w[1], w[2]), -1);
            Check.due("shutAt of wrong", x.shutAt(w[0], w[1], w[2]), -1);
            Check.due("when of wrong", x.when(w[0], w[1], w[2], true), -1);
            Check.due("when of wrong", x.when(w[0], w[1], w[2], false), -1);
        }
    }

    private static void when() {
        ShadySide x = Check.made("sun 0 from 30 north 1 over 1;awning 3 3 when 40<minute and minute<50;");
        Check.due("at once", x.when(0, 5, 33, true), 5);
        Check.due("the sun comes", x.when(0, 5, 33, false), 30);
        Check.due("the awning", x.when(0, 30, 33, true), 41);
        Check.due("the awning goes", x.when(0, 41, 33, false), 50);
        Check.due("no more shade", x.when(0, 50, 33, true), -1);
        Check.due("never sun", x.when(1, 0, 33, false), -1);
        Check.due("the last minute", x.when(0, 119, 33, false), 119);
    }

    private static void dim() {
        ShadySide x = Check.made(HOUSE);
        Check.due("all but the house", x.dim(0, 9), 99);
        Check.due("to the south", x.dim(0, 10), 8);
        Check.due("to the east", x.dim(0, 20), 8);
        Check.due("day 3", x.dim(3, 20), 99);
        for (int[] w : new int[][] {{-1, 0}, {4, 0}, {0, -1}, {0, 120}}) {
            Check.due("dim of wrong", x.dim(w[0], w[1]), -1);
        }
    }

    private static void shutAt() {
        ShadySide x = Check.made("shut 3 3 when minute=7 or day=2;shut 3 3 when minute=9;shut 4 3 when 0;house 5 3 1;"
                + "shut 5 3 when 1;");
        Check.due("7", x.shutAt(0, 7, 33), 1);
        Check.due("8", x.shutAt(0, 8, 33), 0);
        Check.due("9, by another line", x.shutAt(0, 9, 33), 1);
        Check.due("day 2", x.shutAt(2, 8, 33), 1);
        Check.due("never", x.shutAt(2, 8, 34), 0);
        Check.due("a house", x.shutAt(2, 8, 35), 1);
    }

    /** The calls that all say "as of least()" on what can't be a trip. */
    private static void trips() {
        ShadySide x = Check.made(ARCADES + "house 9 9 1;shut 8 8 when 1;");
        int[][] wrong = {{-1, 0, 0, 0, 3}, {6, 0, 0, 0, 3}, {3, 0, 0, 0, 3}, {0, -1, 0, 0, 3}, {0, 4, 0, 0, 3},
            {0, 0, -1, 0, 3}, {0, 0, 120, 0, 3}, {0, 0, 0, -1, 3}, {0, 0, 0, 100, 3}, {0, 0, 0, 0, -1},
            {0, 0, 0, 0, 100}, {0, 0, 0, 99, 0}, {0, 0, 0, 0, 99}, {0, 0, 0, 99, 99}, {0, 0, 0, 0, 88},
            {0, 0, 119, 0, 1}, {1, 0, 118, 0, 1}, {MIN, 0, 0, 0, 3}, {0, MAX, 0, 0, 3}, {0, 0, MIN, 0, 3},
            {0, 0, 0, MAX, 3}, {0, 0, 0, 0, MIN}};
        for (int[] w : wrong) {
            for (int what = 0; what < 4; what++) {
                int k = what;
                Check.none("least", () -> x.least(w[0], w[1], w[2], w[3], w[4], k));
                Check.none("rests", () -> x.rests(w[0], w[1], w[2], w[3], w[4], k));
                Check.none("guessed", () -> x.guessed(w[0], w[1], w[2], w[3], w[4], 5, 12, k));
                Check.none("crowd", () -> x.crowd(w[0], w[1], w[2], w[3], w[4], 119, 2, 1, k));
                Check.none("plant", () -> x.plant(w[0], w[1], w[2], w[3], w[4], 5, k));
                Check.none("spots", () -> x.spots(w[0], w[1], w[2], w[3], w[4], 5, 1, k));
                Check.none("cover", () -> x.cover(w[0], w[1], w[2], w[3], w[4], k));
                Check.none("errand", () -> x.errand(w[0], w[1], w[2], w[3], w[4], 0, k));
            }
            Check.none("price", () -> x.price(w[0], w[1], w[2], w[3], w[4], 119, 2, 1));
            Check.none("keeps", () -> x.keeps(w[0], w[1], w[2], w[3], w[4], 99));
            Check.due("piece", x.piece(w[0], w[1], w[2], w[3], w[4], 0), -1);
            Check.due("soon", x.soon(w[0], w[1], w[2], w[3], w[4], 99), -1);
            Check.due("both", x.both(w[0], w[1], w[2], w[3], w[4], 0, 0), -1);
            Check.due("bears", x.bears(w[0], w[1], w[2], w[3], w[4]), -1);
            Check.due("ice", x.ice(w[0], w[1], w[2], w[3], w[4]), -1);
            Check.due("pays", x.pays(w[0], w[1], w[2], w[3], w[4]), -1);
            Check.due("leave", x.leave(w[0], w[1], w[2], w[2], w[3], w[4], 0), -1);
        }
        Check.due("a wait is not needed to be there", x.least(0, 0, 119, 5, 5, 1), 119);
        Check.due("the last step", x.least(0, 0, 118, 5, 6, 1), 119);
        Check.due("the last step of two minutes", x.least(1, 0, 117, 5, 6, 1), 119);
    }

    /** What is shut can't be come to, but left, waited on and begun on. */
    private static void shutTrips() {
        ShadySide x = Check.made("walker 0 pace 1 bears 1 mends 1 ice 0 hot 0 cool 0;"
                + "walker 1 pace 3 bears 1 mends 1 ice 0 hot 0 cool 0;house 0 1 1;shut 1 0 when minute<9;"
                + "shut 0 0 when 1;shut 2 0 when minute=10 or minute=14;");
        Check.due("comes as it opens", x.least(0, 0, 0, 0, 1, 1), 9);
        Check.due("waits eight minutes", x.rests(0, 0, 0, 0, 1, 0), 8);
        Check.due("on a shut square", x.rests(0, 0, 0, 0, 1, 2), 0);
        Check.due("the second one is shut then", x.least(0, 0, 0, 0, 2, 1), 11);
        Check.due("three minutes a step", x.least(1, 0, 0, 0, 1, 1), 9);
        Check.due("and once more", x.least(1, 0, 8, 0, 2, 1), 15);
        Check.none("never back", () -> x.least(0, 0, 20, 1, 0, 0));
        Check.due("is there", x.least(0, 0, 20, 0, 0, 0), 0);
    }

    private static void least() {
        ShadySide x = Check.made(ARCADES);
        Check.due("sun", x.least(0, 0, 0, 0, 3, 0), 1);
        Check.due("minute", x.least(0, 0, 0, 0, 3, 1), 5);
        Check.due("pieces", x.least(0, 0, 0, 0, 3, 2), 5);
        Check.due("sun at pace 2", x.least(1, 0, 0, 0, 3, 0), 2);
        Check.due("minute at pace 2", x.least(1, 0, 0, 0, 3, 1), 10);
        Check.due("no time for it", x.least(0, 0, 116, 0, 3, 0), 3);
        Check.due("day without sun", x.least(0, 1, 0, 0, 3, 0), 0);
        Check.due("day without sun, the soonest", x.least(0, 1, 0, 0, 3, 1), 3);
        Check.due("the same", x.least(0, 0, 7, 4, 4, 0), 0);
        Check.due("the same, at once", x.least(0, 0, 7, 4, 4, 1), 7);
        Check.due("the same, no piece", x.least(0, 0, 7, 4, 4, 2), 0);
        Check.none("what 3", () -> x.least(0, 0, 0, 0, 3, 3));
        Check.none("what -1", () -> x.least(0, 0, 0, 0, 3, -1));
    }

    private static void piece() {
        ShadySide x = Check.made(ARCADES);
        int[] way = {2, 1, 1, 1, 0};
        for (int i = 0; i < way.length; i++) {
            Check.due("piece " + i, x.piece(0, 0, 0, 0, 3, i), way[i]);
        }
        for (int i : new int[] {-1, 5, MIN, MAX}) {
            Check.due("piece " + i, x.piece(0, 0, 0, 0, 3, i), -1);
        }
        Check.due("no piece", x.piece(0, 0, 0, 3, 3, 0), -1);
        ShadySide y = Check.made(WALKERS);
        int[] first = {0, 0, 1, 1, 1};
        for (int i = 0; i < first.length; i++) {
            Check.due("north ahead of east", y.piece(0, 0, 0, 55, 38, i), first[i]);
        }
        Check.due("east ahead of south", y.piece(0, 0, 0, 55, 66, 0), 1);
        Check.due("south ahead of west", y.piece(0, 0, 0, 55, 64, 0), 2);
        Check.due("then west", y.piece(0, 0, 0, 55, 64, 1), 3);
        ShadySide z = Check.made("shut 6 5 when minute<3;" + WALKERS);
        Check.due("north and back ahead of waiting", z.piece(0, 0, 0, 55, 56, 0), 0);
        Check.due("then east", z.piece(0, 0, 0, 55, 56, 1), 1);
        Check.due("then south", z.piece(0, 0, 0, 55, 56, 2), 2);
    }

    private static void soon() {
        ShadySide x = Check.made(ARCADES);
        int[] due = {-1, -1, 5, 5, 3, 3};
        for (int sun = -1; sun <= 4; sun++) {
            Check.due("soon " + sun, x.soon(0, 0, 0, 0, 3, sun), due[sun + 1]);
        }
        Check.due("soon at most", x.soon(0, 0, 0, 0, 3, MAX), 3);
        Check.due("soon at least", x.soon(0, 0, 0, 0, 3, MIN), -1);
        Check.due("soon at once", x.soon(0, 0, 9, 3, 3, 0), 9);
    }

    private static void both() {
        ShadySide x = Check.made(ARCADES);
        int[][] pairs = {{3, 3}, {5, 1}};
        for (int i = 0; i < 2; i++) {
            Check.due("pair " + i, x.both(0, 0, 0, 0, 3, i, 0), pairs[i][0]);
            Check.due("pair " + i, x.both(0, 0, 0, 0, 3, i, 1), pairs[i][1]);
        }
        for (int[] w : new int[][] {{2, 0}, {2, 1}, {-1, 0}, {MAX, 0}, {MIN, 1}, {0, 2}, {0, -1}}) {
            Check.due("both of wrong", x.both(0, 0, 0, 0, 3, w[0], w[1]), -1);
        }
        Check.due("at once", x.both(0, 0, 9, 3, 3, 0, 0), 9);
        Check.due("at once", x.both(0, 0, 9, 3, 3, 0, 1), 0);
        Check.due("no other", x.both(0, 0, 9, 3, 3, 1, 0), -1);
    }

    private static void bears() {
        ShadySide x = Check.made(ARCADES);
        Check.due("three minutes", x.bears(0, 0, 0, 0, 3), 3);
        Check.due("two minutes at most", x.bears(2, 0, 0, 0, 3), 5);
        Check.due("four minutes are too many", x.bears(0, 0, 0, 4, 8), -1);
        Check.due("water on the way", Check.made(ARCADES + "water 6 0;").bears(0, 0, 0, 4, 8), 4);
        Check.due("water behind four minutes", Check.made(ARCADES + "water 8 0;").bears(0, 0, 0, 4, 8), -1);
        Check.due("water where one begins is nothing", Check.made(ARCADES + "water 4 0;").bears(0, 0, 0, 4, 8), -1);
        ShadySide y = Check.made("sun 0 from 0 north 9 over 1;arcade 3 0;arcade 4 0;water 3 0;"
                + "walker 0 pace 1 bears 3 mends 2 ice 0 hot 0 cool 0;walker 1 pace 1 bears 3 mends 1 ice 0 hot 0 cool 0;");
        Check.due("water and shade", y.bears(0, 0, 0, 0, 8), 8);
        ShadySide z = Check.made("sun 0 from 0 north 9 over 1;arcade 3 0;arcade 3 1;"
                + "walker 0 pace 1 bears 3 mends 2 ice 0 hot 0 cool 0;walker 1 pace 1 bears 3 mends 1 ice 0 hot 0 cool 0;");
        Check.due("mends two", z.bears(0, 0, 0, 0, 6), 6);
        Check.due("mends one, and waits", z.bears(1, 0, 0, 0, 6), 7);
    }

    private static void hours() {
        ShadySide x = Check.made(ARCADES);
        Check.due("three minutes at least", x.hours(0, 0, 0, 3), 117);
        Check.due("five minutes at least", x.hours(2, 0, 0, 3), 115);
        Check.due("the same", x.hours(2, 0, 3, 3), 120);
        Check.due("never", x.hours(0, 0, 4, 8), 0);
        Check.due("until the sun comes", x.hours(0, 2, 4, 8), 50);
        for (int[] w : new int[][] {{-1, 0, 0, 3}, {6, 0, 0, 3}, {3, 0, 0, 3}, {0, -1, 0, 3}, {0, 4, 0, 3},
            {0, 0, -1, 3}, {0, 0, 0, 100}}) {
            Check.due("hours of wrong", x.hours(w[0], w[1], w[2], w[3]), -1);
        }
        Check.due("a house", Check.made(HOUSE).hours(0, 0, 1, 3), -1);
        Check.due("a house", Check.made(HOUSE).hours(0, 0, 3, 1), -1);
    }

    private static void ice() {
        ShadySide x = Check.made(ARCADES);
        Check.due("below the arcades", x.ice(0, 0, 0, 0, 3), 91);
        Check.due("no sun", x.ice(0, 1, 0, 0, 3), 97);
        Check.due("nothing is left", x.ice(1, 0, 0, 0, 3), 0);
        Check.due("in the dark it keeps", x.ice(1, 1, 0, 0, 3), 10);
        Check.due("at once", x.ice(0, 0, 0, 3, 3), 100);
        Check.due("cool is dearer than hot", Check.made("sun 0 from 0 north 9 over 1;arcade 1 0;"
                + "walker 0 pace 1 bears 1 mends 1 ice 50 hot 1 cool 9;").ice(0, 0, 0, 0, 2), 46);
    }

    private static void pays() {
        ShadySide x = Check.made("sun 0 from 0 north 9 over 1;arcade 0 0;awning 1 0 when 4<minute;house 0 1 1;" + WALKERS);
        Check.due("one minute less", x.pays(0, 0, 0, 0, 2), 1);
        Check.due("nothing", x.pays(0, 0, 4, 0, 2), 0);
        Check.due("the same", x.pays(0, 0, 4, 2, 2), 0);
        Check.due("two minutes less at pace 2", x.pays(1, 0, 0, 0, 2), 2);
        ShadySide y = Check.made("sun 0 from 0 north 9 over 1;house 0 1 1;house 2 0 1;house 1 1 1;shut 1 0 when minute<9;"
                + WALKERS);
        Check.due("with waits", y.least(0, 0, 0, 0, 1, 1), 9);
        Check.due("none without", y.pays(0, 0, 0, 0, 1), -1);
    }

    private static void guessed() {
        ShadySide x = Check.made(ARCADES);
        long[][] due = {{0, 12, 1, 1}, {3, 12, 7, 10}, {5, 12, 1, 2}, {6, 12, 2, 5}, {10, 12, 0, 1}, {0, 4, 3, 1},
            {3, 3, 21, 10}, {5, 3, 3, 2}, {9, 5, 1, 10}, {0, 5, 1, 1}};
        for (long[] row : due) {
            int ten = (int) row[0];
            int t = (int) row[1];
            Check.due("above " + ten + " in " + t, x.guessed(0, 0, 0, 0, 3, ten, t, 0), row[2]);
            Check.due("below " + ten + " in " + t, x.guessed(0, 0, 0, 0, 3, ten, t, 1), row[3]);
        }
        Check.due("the same", x.guessed(0, 0, 119, 3, 3, 5, 1, 1), 1);
        Check.none("in two minutes", () -> x.guessed(0, 0, 0, 0, 3, 5, 2, 0));
        Check.none("behind the last minute", () -> x.guessed(0, 0, 117, 0, 3, 5, 12, 0));
        for (int[] w : new int[][] {{-1, 5, 0}, {11, 5, 0}, {5, 0, 0}, {5, 13, 0}, {5, 5, 2}, {5, 5, -1}}) {
            Check.none("guessed of wrong", () -> x.guessed(0, 0, 0, 0, 3, w[0], w[1], w[2]));
        }
    }

    private static void crowd() {
        ShadySide x = Check.made(WALKERS);
        int[] apart = {18, 0, 1, 9};
        int[] together = {36, 0, 1, 18};
        int[] alone = {0, 0, 1, 0};
        for (int what = 0; what < 4; what++) {
            Check.due("one waits " + what, x.crowd(0, 0, 0, 0, 2, 119, 2, 9, what), apart[what]);
            Check.due("no time to wait " + what, x.crowd(0, 0, 0, 0, 2, 2, 2, 9, what), together[what]);
            Check.due("alone " + what, x.crowd(0, 0, 0, 0, 2, 119, 1, 9, what), alone[what]);
            Check.due("at once " + what, x.crowd(0, 0, 5, 2, 2, 5, 8, 9, what), alone[what]);
            Check.due("no matter " + what, x.crowd(0, 0, 0, 0, 2, 119, 8, 0, what), alone[what]);
        }
        Check.due("price", x.price(0, 0, 0, 0, 2, 119, 2, 9), 18);
        Check.due("price without time", x.price(0, 0, 0, 0, 2, 2, 2, 9), 36);
        Check.due("price of one", x.price(0, 0, 0, 0, 2, 2, 1, 9), 0);
        ShadySide y = Check.made(ARCADES);
        Check.due("sun of two", y.crowd(0, 0, 0, 0, 3, 119, 2, 0, 1), 2);
        Check.due("sun of two by minute 4", y.crowd(0, 0, 0, 0, 3, 4, 2, 0, 1), 6);
        Check.due("price by minute 4", y.price(0, 0, 0, 0, 3, 4, 2, 0), 0);
        for (int[] w : new int[][] {{-1, 2, 1, 0}, {120, 2, 1, 0}, {1, 2, 1, 0}, {119, 0, 1, 0}, {119, 9, 1, 0},
            {119, 2, -1, 0}, {119, 2, 10, 0}, {119, 2, 1, -1}, {119, 2, 1, 4}, {MAX, MAX, MAX, MAX}}) {
            Check.none("crowd of wrong", () -> x.crowd(0, 0, 0, 0, 2, w[0], w[1], w[2], w[3]));
            if (w[3] == 0) {
                Check.none("price of wrong", () -> x.price(0, 0, 0, 0, 2, w[0], w[1], w[2]));
            }
        }
        Check.none("the minute is ahead", () -> x.crowd(0, 0, 5, 2, 2, 4, 1, 0, 0));
    }

    private static void plant() {
        ShadySide x = Check.made("sun 0 from 0 north 1 over 1;house 2 0 1;" + WALKERS);
        Check.due("to the north of it", x.plant(0, 0, 0, 11, 12, 2, 0), 1);
        Check.due("by one", x.plant(0, 0, 0, 11, 12, 2, 1), 1);
        Check.due("too low but for its own square", x.plant(0, 0, 0, 11, 12, 1, 0), 11);
        Check.due("as high as can be", x.plant(0, 0, 0, 81, 82, 99, 0), 1);
        Check.due("nothing to make less", x.plant(0, 1, 0, 11, 12, 9, 0), -1);
        Check.due("by nothing", x.plant(0, 1, 0, 11, 12, 9, 1), 0);
        Check.due("at once", x.plant(0, 0, 0, 11, 11, 9, 0), -1);
        Check.due("nothing is planted", x.count(1), 0);
        Check.due("the least is as it was", x.least(0, 0, 0, 11, 12, 0), 1);
        for (int[] w : new int[][] {{0, 0}, {100, 0}, {5, -1}, {5, 2}, {MIN, 0}}) {
            Check.none("plant of wrong", () -> x.plant(0, 0, 0, 11, 12, w[0], w[1]));
        }
    }

    private static void spots() {
        ShadySide x = Check.made("sun 0 from 0 north 1 over 1;house 2 0 1;tree 3 0 1;arcade 4 0;" + WALKERS);
        for (int s : new int[] {-1, 100, 2, 3, 4, MIN, MAX}) {
            Check.due("spot " + s, x.spot(s), -1);
        }
        Check.due("no spot", x.spots(0, 0, 0, 11, 13, 9, 8, 0), 0);
        Check.due("no spot, the least", x.spots(0, 0, 0, 11, 13, 9, 8, 1), 2);
        int[] squares = {90, 12, 1, 11, 0, 91, 92, 93};
        for (int i = 0; i < 8; i++) {
            Check.due("spot " + i, x.spot(squares[i]), i);
            Check.due("is one", x.spot(squares[i]), -1);
        }
        Check.due("8 are there", x.spot(94), -1);
        Check.due("count", x.count(7), 8);
        Check.due("of one the least as bits", x.spots(0, 0, 0, 11, 13, 2, 1, 0), 2);
        Check.due("of one the least", x.spots(0, 0, 0, 11, 13, 2, 1, 1), 1);
        Check.due("of two", x.spots(0, 0, 0, 11, 13, 2, 2, 0), 2 + 4);
        Check.due("of two, none is left", x.spots(0, 0, 0, 11, 13, 2, 8, 1), 0);
        Check.due("of low ones", x.spots(0, 0, 0, 11, 13, 1, 8, 0), 2 + 8);
        Check.due("none is needed", x.spots(0, 1, 0, 11, 13, 1, 8, 0), 0);
        Check.due("of high ones", x.spots(0, 0, 0, 11, 13, 99, 8, 0), 2 + 4);
        Check.due("nothing is planted", x.count(1), 1);
        for (int[] w : new int[][] {{0, 1, 0}, {100, 1, 0}, {5, 0, 0}, {5, 9, 0}, {5, 1, -1}, {5, 1, 2}}) {
            Check.none("spots of wrong", () -> x.spots(0, 0, 0, 11, 13, w[0], w[1], w[2]));
        }
    }

    private static void pull() {
        ShadySide x = Check.made(HOUSE + "tree 5 5 5;arcade 6 6;");
        for (int s : new int[] {0, 55, 66, -1, 100, MIN, MAX}) {
            Check.due("no house on " + s, x.pull(s), false);
        }
        Check.due("in its shade", x.shade(0, 10, 11), 1);
        Check.none("a house", () -> x.least(0, 0, 0, 0, 1, 0));
        Check.due("pulled", x.pull(1), true);
        Check.due("no more", x.pull(1), false);
        Check.due("nothing is on it", x.square(1, 0), 0);
        Check.due("no height", x.square(1, 1), 0);
        Check.due("no house", x.count(0), 0);
        Check.due("no shade", x.shade(0, 10, 11), 0);
        Check.due("one can go there", x.least(0, 0, 0, 0, 1, 1), 1);
        Check.due("it can be a spot", x.spot(1), 0);
    }

    private static void dark() {
        ShadySide x = Check.made(ARCADES);
        int[] arcades = {117, 0, 3};
        int[] never = {0, -1, -1};
        int[] ahead = {50, 0, 3};
        int[] same = {120, 0, 0};
        for (int what = 0; what < 3; what++) {
            Check.due("below the arcades " + what, x.dark(0, 0, 10, 13, what), arcades[what]);
            Check.due("never " + what, x.dark(0, 0, 0, 3, what), never[what]);
            Check.due("ahead of the sun " + what, x.dark(0, 2, 0, 3, what), ahead[what]);
            Check.due("the same " + what, x.dark(0, 0, 5, 5, what), same[what]);
        }
        ShadySide y = Check.made("sun 0 from 0 north 9 over 1;awning 0 0 when 49<minute and minute<53;" + WALKERS);
        Check.due("three minutes", y.dark(0, 0, 0, 1, 0), 3);
        Check.due("the first", y.dark(0, 0, 0, 1, 1), 50);
        Check.due("the soonest", y.dark(0, 0, 0, 1, 2), 51);
        Check.due("two at pace 2", y.dark(1, 0, 0, 1, 0), 2);
        for (int[] w : new int[][] {{-1, 0, 0, 3, 0}, {6, 0, 0, 3, 0}, {3, 0, 0, 3, 0}, {0, -1, 0, 3, 0},
            {0, 4, 0, 3, 0}, {0, 0, -1, 3, 0}, {0, 0, 0, 100, 0}, {0, 0, 0, 3, -1}, {0, 0, 0, 3, 3}}) {
            Check.due("dark of wrong", x.dark(w[0], w[1], w[2], w[3], w[4]), -1);
        }
        Check.due("a house", Check.made(HOUSE).dark(0, 0, 1, 3, 0), -1);
    }

    private static void procession() {
        ShadySide x = Check.made(ARCADES + "house 5 0 1;shut 1 0 when 1;");
        Check.due("none", x.parade(0, 0, 1), -1);
        Check.due("none", x.start(0, 0, 119, 1), -1);
        for (int s : new int[] {-1, 100, 5, MIN, MAX}) {
            Check.due("follow " + s, x.follow(s), -1);
        }
        Check.due("the first", x.follow(0), 1);
        Check.due("one square", x.parade(0, 119, 3), 0);
        for (int s : new int[] {0, 11, 2, 9, 5, -1}) {
            Check.due("not next: " + s, x.follow(s), -1);
        }
        Check.due("the second", x.follow(1), 2);
        Check.due("the third", x.follow(11), 3);
        Check.due("the fourth", x.follow(10), 4);
        Check.due("two in the sun", x.parade(0, 0, 1), 2);
        Check.due("four minutes at pace 2", x.parade(0, 0, 2), 4);
        Check.due("six minutes at pace 3", x.parade(0, 110, 3), 6);
        Check.due("behind the last minute", x.parade(0, 111, 3), -1);
        Check.due("ahead of the sun", x.parade(2, 48, 1), 0);
        Check.due("the sun comes", x.parade(2, 49, 1), 1);
        Check.due("the best", x.start(2, 49, 119, 1), 49);
        Check.due("of equal ones the first", x.start(2, 50, 119, 1), 50);
        Check.due("that can be", x.start(2, 116, 119, 1), 116);
        Check.due("none that can be", x.start(2, 117, 119, 1), -1);
        Check.due("none between", x.start(2, 10, 9, 1), -1);
        for (int[] w : new int[][] {{-1, 0, 1}, {4, 0, 1}, {0, -1, 1}, {0, 120, 1}, {0, 0, 0}, {0, 0, 4}}) {
            Check.due("parade of wrong", x.parade(w[0], w[1], w[2]), -1);
            Check.due("start of wrong", x.start(w[0], w[1], 119, w[2]), -1);
        }
        Check.due("start of wrong", x.start(0, 0, 120, 1), -1);
        Check.due("start of wrong", x.start(0, 0, -1, 1), -1);
        for (int i = 5; i <= 30; i++) {
            Check.due("more", x.follow(i % 2 == 1 ? 0 : 10), i);
        }
        Check.due("30 are there", x.follow(0), -1);
        Check.due("the row's end is no neighbour", x.clear() && x.follow(9) == 1 && x.follow(10) == -1, true);
        Check.due("cleared", x.count(8), 1);
    }

    private static void told() {
        ShadySide x = Check.made(ARCADES + "house 5 0 1;shut 2 0 when minute<9;water 7 7;");
        for (int piece : new int[] {-1, 5, MIN, MAX}) {
            Check.due("tell " + piece, x.tell(piece), -1);
        }
        judge(x, 0, 7, 0, -1, 0, 0, 0, 100, 7, 0);
        Check.due("north", x.tell(0), 1);
        judge(x, 0, 7, 0, 0, 1, 0, 0, 100, 7, 0);
        judge(x, 0, 7, 50, -1, 0, 1, 1, 95, 8, 40);
        x.clear();
        Check.due("cleared", x.count(9), 0);
        int[] pieces = {4, 1, 1, 2, 4};
        for (int i = 0; i < pieces.length; i++) {
            Check.due("tell", x.tell(pieces[i]), i + 1);
        }
        judge(x, 0, 0, 3, 2, 2, 2, 2, 90, 2, 4);
        judge(x, 0, 0, 0, 2, 4, 2, 2, 90, 2, 1);
        judge(x, 0, 6, 0, -1, 0, 4, 4, 79, 11, 12);
        judge(x, 0, 117, 0, 2, 3, 2, 2, 90, 119, 1);
        judge(x, 1, 113, 55, 3, 3, 5, 5, 0, 118, 57);
        judge(x, 0, 119, 0, 0, 3, 0, 0, 100, 119, 0);
        x.clear();
        for (int i = 0; i < 60; i++) {
            Check.due("60", x.tell(i % 2 == 0 ? 1 : 3), i + 1);
        }
        Check.due("60 are there", x.tell(4), -1);
        judge(x, 0, 0, 76, -1, 0, 60, 2, 0, 60, 76);
        for (int[] w : new int[][] {{-1, 0, 0, 0, 0}, {6, 0, 0, 0, 0}, {3, 0, 0, 0, 0}, {0, -1, 0, 0, 0},
            {0, 4, 0, 0, 0}, {0, 0, -1, 0, 0}, {0, 0, 120, 0, 0}, {0, 0, 0, -1, 0}, {0, 0, 0, 100, 0},
            {0, 0, 0, 5, 0}, {0, 0, 0, 0, -1}, {0, 0, 0, 0, 7}}) {
            Check.none("judged of wrong", () -> x.judged(w[0], w[1], w[2], w[3], w[4]));
        }
        Check.due("clear", x.clear(), true);
        Check.due("clear once more", x.clear(), true);
        waterOnTheWay();
    }

    private static void judge(ShadySide x, int walker, int minute, int from, int... due) {
        for (int what = 0; what < due.length; what++) {
            Check.due("judged from " + from + " in " + minute + " what " + what,
                    x.judged(walker, 0, minute, from, what), due[what]);
        }
    }

    /** Water mends who steps to it, not who waits at it, and not the minute ahead of it. */
    private static void waterOnTheWay() {
        ShadySide x = Check.made("sun 0 from 0 north 9 over 1;water 3 0;walker 0 pace 3 bears 1 mends 1 ice 9999 hot 1 cool 1;");
        x.tell(1);
        Check.due("three minutes of heat", x.judged(0, 0, 0, 2, 3), 3);
        x.tell(4);
        Check.due("one more is the first", x.judged(0, 0, 0, 2, 3), 3);
        x.tell(4);
        x.tell(4);
        x.tell(4);
        Check.due("waits do not mend", x.judged(0, 0, 0, 2, 3), 4);
    }

    private static void rests() {
        ShadySide x = Check.made("sun 0 from 0 north 9 over 1;arcade 0 0;awning 1 0 when 4<minute;house 0 1 1;" + WALKERS);
        int[] due = {4, 4, 0, 0};
        int[] none = {0, 0, -1, 0};
        for (int what = 0; what < 4; what++) {
            Check.due("rests " + what, x.rests(0, 0, 0, 0, 2, what), due[what]);
            Check.due("no rest " + what, x.rests(0, 1, 0, 0, 2, what), none[what]);
            Check.due("at once " + what, x.rests(0, 0, 0, 2, 2, what), none[what]);
        }
        Check.due("two steps more", Check.made(ARCADES).rests(0, 0, 0, 0, 3, 3), 2);
        ShadySide y = Check.made("sun 0 from 0 north 9 over 1;house 0 1 1;house 1 1 1;awning 0 0 when minute<3;arcade 1 0;"
                + "shut 1 0 when minute<3;shut 2 0 when minute<8;" + WALKERS);
        Check.due("on two squares", y.rests(0, 0, 0, 0, 2, 0), 6);
        Check.due("the most", y.rests(0, 0, 0, 0, 2, 1), 4);
        Check.due("where the most are", y.rests(0, 0, 0, 0, 2, 2), 1);
        Check.none("what 4", () -> x.rests(0, 0, 0, 0, 2, 4));
        Check.none("what -1", () -> x.rests(0, 0, 0, 0, 2, -1));
    }

    private static void leave() {
        ShadySide x = Check.made(ARCADES);
        int[] due = {40, 0, 50, 1};
        int[] late = {50, 1, 115, 3};
        int[] equal = {60, 1, 60, 1};
        for (int what = 0; what < 4; what++) {
            Check.due("leave " + what, x.leave(0, 2, 40, 60, 0, 3, what), due[what]);
            Check.due("leave late " + what, x.leave(0, 2, 50, 119, 0, 3, what), late[what]);
            Check.due("all equal " + what, x.leave(0, 2, 60, 80, 0, 3, what), equal[what]);
            Check.due("one minute " + what, x.leave(0, 2, 60, 60, 0, 3, what), equal[what]);
            Check.due("no trip " + what, x.leave(0, 2, 117, 119, 0, 3, what), -1);
            Check.due("none between " + what, x.leave(0, 2, 60, 59, 0, 3, what), -1);
        }
        for (int[] w : new int[][] {{-1, 5, 0}, {0, 120, 0}, {0, -1, 0}, {120, 120, 0}, {0, 5, -1}, {0, 5, 4}}) {
            Check.due("leave of wrong", x.leave(0, 2, w[0], w[1], 0, 3, w[2]), -1);
        }
    }

    private static void errand() {
        ShadySide x = Check.made(ARCADES);
        Check.due("sun", x.errand(0, 0, 0, 0, 3, 2, 0), 4);
        Check.due("minute", x.errand(0, 0, 0, 0, 3, 2, 1), 12);
        Check.due("no stay", x.errand(0, 0, 0, 0, 3, 0, 0), 2);
        Check.due("no stay, minute", x.errand(0, 0, 0, 0, 3, 0, 1), 10);
        Check.due("the same", x.errand(0, 0, 0, 4, 4, 5, 0), 5);
        Check.due("the same, minute", x.errand(0, 0, 0, 4, 4, 5, 1), 5);
        Check.due("60 minutes", x.errand(0, 1, 53, 0, 3, 60, 1), 119);
        Check.none("one can't be back", () -> x.errand(0, 1, 54, 0, 3, 60, 0));
        Check.none("one can't be back", () -> x.errand(0, 1, 114, 0, 3, 0, 0));
        for (int[] w : new int[][] {{-1, 0}, {61, 0}, {0, -1}, {0, 2}, {MIN, 0}}) {
            Check.none("errand of wrong", () -> x.errand(0, 0, 0, 0, 3, w[0], w[1]));
        }
        ShadySide y = Check.made("sun 0 from 0 north 9 over 1;awning 1 0 when 29<minute;awning 0 0 when 1;" + WALKERS);
        Check.due("later is better", y.errand(0, 0, 0, 0, 1, 20, 0), 0);
        Check.due("later is better", y.errand(0, 0, 0, 0, 1, 20, 1), 51);
    }

    private static void meet() {
        ShadySide x = Check.made(ARCADES);
        int[] due = {2, 3, 11};
        int[] same = {0, 7, 44};
        int[] waits = {0, 1, 10};
        int[] slow = {0, 2, 10};
        for (int what = 0; what < 3; what++) {
            Check.due("below the arcades " + what, x.meet(0, 0, 0, 3, 0, 0, what), due[what]);
            Check.due("the same square " + what, x.meet(0, 44, 1, 44, 0, 7, what), same[what]);
            Check.due("one comes " + what, x.meet(0, 11, 0, 10, 0, 0, what), waits[what]);
            Check.due("the quick one comes " + what, x.meet(1, 10, 0, 12, 0, 0, what), slow[what]);
        }
        Check.none("no time", () -> x.meet(0, 0, 0, 3, 0, 118, 0));
        int[][] wrong = {{-1, 0, 0, 3, 0, 0, 0}, {3, 0, 0, 3, 0, 0, 0}, {0, 0, 3, 3, 0, 0, 0}, {0, 0, 6, 3, 0, 0, 0},
            {0, -1, 0, 3, 0, 0, 0}, {0, 0, 0, 100, 0, 0, 0}, {0, 0, 0, 3, 4, 0, 0}, {0, 0, 0, 3, -1, 0, 0},
            {0, 0, 0, 3, 0, -1, 0}, {0, 0, 0, 3, 0, 120, 0}, {0, 0, 0, 3, 0, 0, -1}, {0, 0, 0, 3, 0, 0, 3}};
        for (int[] w : wrong) {
            Check.none("meet of wrong", () -> x.meet(w[0], w[1], w[2], w[3], w[4], w[5], w[6]));
        }
        ShadySide y = Check.made(HOUSE);
        Check.none("a house", () -> y.meet(0, 1, 0, 3, 0, 0, 0));
        Check.none("a house", () -> y.meet(0, 3, 0, 1, 0, 0, 0));
    }

    private static void cover() {
        ShadySide x = Check.made(ARCADES);
        Check.due("the first square", x.cover(0, 0, 0, 0, 3, 0), 0);
        Check.due("by one", x.cover(0, 0, 0, 0, 3, 1), 1);
        Check.due("two minutes by one awning", x.cover(1, 0, 0, 0, 3, 1), 2);
        Check.due("none helps", x.cover(0, 0, 0, 10, 13, 0), -1);
        Check.due("by nothing", x.cover(0, 0, 0, 10, 13, 1), 0);
        Check.due("of equal ones the first", x.cover(0, 0, 0, 57, 37, 0), 47);
        Check.due("nothing is put up", x.count(3), 0);
        Check.due("the least is as it was", x.least(0, 0, 0, 0, 3, 0), 1);
        Check.none("what 2", () -> x.cover(0, 0, 0, 0, 3, 2));
        Check.none("what -1", () -> x.cover(0, 0, 0, 0, 3, -1));
    }

    private static void keeps() {
        ShadySide x = Check.made(HOUSE);
        Check.due("shade", x.keeps(0, 1, 0, 11, 12, 1), 1);
        Check.due("in the way", x.keeps(0, 1, 0, 0, 2, 1), -1);
        Check.due("nothing", x.keeps(0, 2, 0, 0, 2, 1), 0);
        Check.due("it stands", x.square(1, 1), 9);
        Check.due("its shade too", x.shade(1, 0, 11), 1);
        for (int s : new int[] {-1, 100, 0, 2, MIN, MAX}) {
            Check.none("no house on " + s, () -> x.keeps(0, 1, 0, 11, 12, s));
        }
        ShadySide y = Check.made("house 1 0 9;house 0 1 9;" + WALKERS);
        Check.none("none as it is", () -> y.keeps(0, 0, 0, 0, 2, 1));
    }

    private static void broad() {
        ShadySide x = Check.made(HOUSE);
        Check.due("minute", x.broad(0, 0), 10);
        Check.due("how many", x.broad(0, 1), 8);
        Check.due("all day", x.broad(1, 0), 0);
        Check.due("no sun line", x.broad(2, 0), -1);
        Check.due("no sun line", x.broad(3, 1), -1);
        for (int[] w : new int[][] {{-1, 0}, {4, 0}, {0, -1}, {0, 2}}) {
            Check.due("broad of wrong", x.broad(w[0], w[1]), -1);
        }
        ShadySide y = Check.made("sun 0 from 10 north 1 over 1;awning 1 1 when minute=30 or minute=40;");
        Check.due("of equal ones the first", y.broad(0, 0), 30);
        Check.due("one", y.broad(0, 1), 1);
    }

    private static void edges() {
        ShadySide x = Check.made(HOUSE);
        Check.due("come", x.edges(0, 10, true), 0);
        Check.due("gone", x.edges(0, 10, false), 91);
        Check.due("come", x.edges(0, 20, true), 8);
        Check.due("gone", x.edges(0, 20, false), 8);
        Check.due("as before", x.edges(0, 21, true), 0);
        Check.due("as before", x.edges(0, 119, false), 0);
        for (int[] w : new int[][] {{-1, 5}, {4, 5}, {0, 0}, {0, -1}, {0, 120}}) {
            Check.due("edges of wrong", x.edges(w[0], w[1], true), -1);
        }
    }

    private static void mark() {
        ShadySide x = Check.made(HOUSE);
        for (int m : new int[] {-1, 4, MIN, MAX}) {
            Check.due("mark " + m, x.mark(m, false), false);
            Check.due("back to mark " + m, x.mark(m, true), false);
        }
        Check.due("nothing is on it", x.mark(0, true), false);
        Check.due("laid", x.mark(0, false), true);
        x.spot(5);
        x.follow(7);
        x.tell(4);
        x.pull(1);
        Check.feed(x, "house");
        Check.due("laid", x.mark(3, false), true);
        Check.due("back", x.mark(0, true), true);
        int[] first = {1, 0, 0, 0, 0, 3, 3, 0, 0, 0, 5, 0};
        int[] second = {0, 0, 0, 0, 0, 3, 3, 1, 1, 1, 5, 0};
        counts(x, first);
        Check.due("its shade is back", x.shade(0, 10, 11), 1);
        Check.due("back", x.mark(3, true), true);
        counts(x, second);
        Check.due("no shade", x.shade(0, 10, 11), 0);
        x.tell(4);
        x.clear();
        Check.due("back once more", x.mark(3, true), true);
        counts(x, second);
        Check.due("the tape stays", x.town(), 1 + 16 * 5);
        Check.due("back behind a reading", Check.town(x, "arcade 1 1;") == 0 && x.mark(3, true), true);
        second[10] = 0;
        counts(x, second);
        Check.due("laid once more", x.mark(0, false) && x.mark(3, true) && x.mark(0, true), true);
        counts(x, second);
    }

    /** What one call looks for does not stay for the next one: each two of them, in each order. */
    private static void oneAfterAnother() {
        for (int first = 0; first < 20; first++) {
            for (int second = 0; second < 20; second++) {
                String text = ARCADES + "house 9 9 5;water 1 1;awning 4 4 when minute=71;";
                ShadySide x = Check.made(text);
                ask(x, first);
                Check.due(second + " behind " + first, ask(x, second), ask(Check.made(text), second));
            }
        }
    }

    private static long ask(ShadySide x, int call) {
        switch (call) {
            case 0: return x.least(0, 0, 3, 0, 3, 2);
            case 1: return x.piece(0, 0, 3, 0, 3, 4);
            case 2: return x.soon(0, 0, 3, 0, 3, 2);
            case 3: return x.both(0, 0, 3, 0, 3, 1, 1);
            case 4: return x.bears(2, 0, 3, 0, 3);
            case 5: return x.hours(2, 0, 0, 3);
            case 6: return x.ice(0, 0, 3, 0, 3);
            case 7: return x.pays(0, 0, 3, 0, 3);
            case 8: return x.guessed(0, 0, 3, 0, 3, 4, 9, 0);
            case 9: return x.crowd(0, 0, 3, 0, 3, 119, 3, 4, 0);
            case 10: return x.plant(0, 0, 3, 4, 8, 9, 0);
            case 11: return x.cover(1, 0, 3, 4, 8, 0);
            case 12: return x.dark(1, 2, 44, 45, 0);
            case 13: return x.leave(1, 2, 70, 70, 44, 45, 1);
            case 14: return x.errand(0, 0, 3, 0, 3, 4, 0);
            case 15: return x.meet(0, 0, 1, 3, 0, 3, 1);
            case 16: return x.keeps(0, 0, 3, 0, 3, 99);
            case 17: return x.price(0, 0, 3, 0, 3, 119, 3, 4);
            case 18: return x.rests(0, 0, 3, 0, 3, 3);
            default: return x.judged(0, 0, 3, 0, 5);
        }
    }

    /** A mark holds each thing that a town has, and nothing of the one that is told behind it. */
    private static void wholeMark() {
        String text = ARCADES + "house 9 9 5;water 6 0;shut 5 5 when 1;awning 6 6 when 1;tree 7 7 2;";
        String other = "sun 1 from 0 south 1 over 9;sun 2 from 0 south 1 over 9;water 5 0;water 7 0;house 0 0 9;"
                + "shut 4 4 when 1;awning 3 3 when 1;walker 5 pace 1 bears 1 mends 1 ice 1 hot 1 cool 1;";
        ShadySide x = Check.made(text);
        ShadySide y = Check.made(text);
        x.mark(2, false);
        Check.due("another town", Check.town(x, other), 0);
        x.mark(1, false);
        Check.due("back", x.mark(2, true), true);
        for (int s = 0; s < 100; s++) {
            Check.due("what is on " + s, x.square(s, 0), y.square(s, 0));
            for (int day = 0; day < 4; day++) {
                Check.due("shade", x.shade(day, 60, s), y.shade(day, 60, s));
                Check.due("shut", x.shutAt(day, 60, s), y.shutAt(day, 60, s));
            }
        }
        for (int what = 0; what < 12; what++) {
            Check.due("count " + what, x.count(what), y.count(what));
        }
        Check.due("the water", x.bears(0, 0, 0, 4, 8), 4);
        Check.due("its walkers alone", x.hours(5, 0, 0, 1), -1);
        x.pull(99);
        Check.due("the mark has the house still", x.mark(2, true) && x.square(99, 1) == 5, true);
        Check.due("the other mark", x.mark(1, true), true);
        Check.due("its walker", x.hours(5, 3, 8, 9), 119);
        Check.due("its sun", x.shade(1, 0, 50), 0);
    }

    private static void counts(ShadySide x, int[] due) {
        for (int what = 0; what < due.length; what++) {
            Check.due("count " + what, x.count(what), due[what]);
        }
    }

    private static void count() {
        ShadySide x = Check.made("house 0 0 1;house 1 0 1;tree 2 0 1;arcade 3 0;arcade 4 0;arcade 5 0;awning 0 0 when 1;"
                + "awning 0 0 when 0;shut 0 0 when 1;sun 0 from 0 east 1 over 1;sun 1 from 0 east 1 over 1;"
                + "water 6 0;water 6 0;water 7 0;" + WALKERS);
        x.spot(9);
        x.spot(8);
        x.follow(8);
        x.tell(1);
        x.tell(1);
        x.tell(1);
        Check.feed(x, "abcd");
        counts(x, new int[] {2, 1, 3, 2, 1, 2, 3, 2, 1, 3, 4, 3});
        for (int what : new int[] {-1, 12, MIN, MAX}) {
            Check.due("count " + what, x.count(what), -1);
        }
    }
}

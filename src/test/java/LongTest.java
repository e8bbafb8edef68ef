import java.util.BitSet;

/** Trips through whole days: beside sets of all that may be, and beside towns told anew with one thing more. */
public final class LongTest {
    private static final int THROWN = -99;
    private static final int SEEDS = 160;

    private final Texts texts;
    private final boolean patched;
    private final String text;
    private final ShadySide x;
    private final Model model;
    private String asked = "";
    private int walker;
    private Model.Walker w;
    private int day;
    private int minute;
    private int from;
    private int to;

    private LongTest(int seed) {
        texts = new Texts(7000 + seed);
        patched = seed % 2 == 0;
        String told = patched ? texts.patchwork(false) : texts.town(seed % 4 == 1);
        for (int i = 0; i < 100 && told.length() > 920; i++) {
            told = patched ? texts.patchwork(false) : texts.town(seed % 4 == 1);
        }
        text = told;
        x = Check.made(text);
        model = Model.read(text);
    }

    public static void main(String[] args) {
        for (int seed = 0; seed < SEEDS; seed++) {
            LongTest test = new LongTest(seed);
            if (test.pick()) {
                test.askPairs();
                test.askBodies();
                test.askWay();
                test.askGarden(seed);
                test.askDay();
                test.askErrandAndMeet();
            }
        }
        Check.end();
    }

    private void due(String what, long got, long want) {
        Check.due(what + " " + asked + " of\n" + text + "\n", got, want);
    }

    private boolean pick() {
        for (int i = 0; i < 50; i++) {
            walker = texts.upTo(5);
            w = model.walkers[walker];
            day = texts.upTo(3);
            minute = texts.once(2) ? 0 : texts.upTo(110);
            from = patched ? near(model.shuts.isEmpty() ? 44 : model.shuts.get(0).square()) : texts.upTo(99);
            to = patched ? near(from) : texts.upTo(99);
            asked = walker + " " + day + " " + minute + " " + from + " " + to;
            if (w != null && model.kind[from] != 1 && model.kind[to] != 1
                    && model.lines.stream().anyMatch(line -> line.day() == day)) {
                return true;
            }
        }
        return false;
    }

    private int near(int square) {
        int px = Math.max(0, Math.min(9, square % 10 + texts.between(-3, 3)));
        int py = Math.max(0, Math.min(9, square / 10 + texts.between(-3, 3)));
        return 10 * py + px;
    }

    /** What a minute makes of the value so far; below 0 it can't be. */
    private interface Rule {
        int after(int value, boolean shade);
    }

    /** By minute the values with which one comes to the target, where the trip ends. */
    private BitSet[] values(Rule rule, boolean waits, boolean water) {
        BitSet[][] can = allValues(rule, w, from, to, waits, water);
        BitSet[] found = new BitSet[120];
        for (int m = 0; m < 120; m++) {
            found[m] = can[m][to];
        }
        return found;
    }

    /** By minute and square the values with which one may be there. */
    private BitSet[][] allValues(Rule rule, Model.Walker who, int start, int target, boolean waits, boolean water) {
        int begin = minute;
        BitSet[][] can = new BitSet[124][100];
        for (BitSet[] row : can) {
            for (int s = 0; s < 100; s++) {
                row[s] = new BitSet();
            }
        }
        model.show(day, begin);
        can[begin][start].set(0);
        for (int m = begin; m < 120; m++) {
            for (int s = 0; s < 100; s++) {
                if (s == target || can[m][s].isEmpty()) {
                    continue;
                }
                for (int v = can[m][s].nextSetBit(0); v >= 0; v = can[m][s].nextSetBit(v + 1)) {
                    int value = v;
                    for (int k = 0; k < who.pace() && value >= 0; k++) {
                        value = m + k < 120 ? rule.after(value, model.shownShade(m + k, s)) : -1;
                        if (k == 0 && waits && value >= 0) {
                            can[m + 1][s].set(value);
                        }
                    }
                    int comes = m + who.pace();
                    for (int piece = 0; piece < 4 && value >= 0 && comes < 120; piece++) {
                        int goal = Model.step(s, piece);
                        if (goal >= 0 && model.kind[goal] != 1 && !model.shownShut(comes, goal)) {
                            can[comes][goal].set(water && model.water[goal] ? 0 : value);
                        }
                    }
                }
            }
        }
        return can;
    }

    private static int sun(int value, boolean shade) {
        return shade ? value : value + 1;
    }

    private void askPairs() {
        BitSet[] comes = values(LongTest::sun, true, false);
        int least = 1000;
        int when = THROWN;
        int pairs = 0;
        for (int m = minute; m < 120; m++) {
            int sun = comes[m].nextSetBit(0);
            if (sun >= 0 && sun < least) {
                for (int more = sun; more < Math.min(least, sun + 4); more++) {
                    due("soon " + more, x.soon(walker, day, minute, from, to, more), m);
                }
                due("both minute " + pairs, x.both(walker, day, minute, from, to, pairs, 0), m);
                due("both sun " + pairs, x.both(walker, day, minute, from, to, pairs, 1), sun);
                pairs++;
                least = sun;
                when = m;
            }
        }
        due("both none", x.both(walker, day, minute, from, to, pairs, 1), -1);
        int sun = when == THROWN ? THROWN : least;
        int soonest = when;
        due("least", Check.orElse(() -> x.least(walker, day, minute, from, to, 0), THROWN), sun);
        due("least minute", Check.orElse(() -> x.least(walker, day, minute, from, to, 1), THROWN), soonest);
        BitSet[] straight = values(LongTest::sun, false, false);
        int hurried = 1000;
        for (int m = minute; m < 120; m++) {
            int s = straight[m].nextSetBit(0);
            hurried = s >= 0 ? Math.min(hurried, s) : hurried;
        }
        due("pays", x.pays(walker, day, minute, from, to), hurried == 1000 ? -1 : hurried - least);
    }

    private int soonestOf(BitSet[] comes) {
        for (int m = 0; m < 120; m++) {
            if (!comes[m].isEmpty()) {
                return m;
            }
        }
        return -1;
    }

    private int heat(int value, boolean shade) {
        int heat = shade ? Math.max(0, value - w.mends()) : value + 1;
        return heat > w.bears() ? -1 : heat;
    }

    private void askBodies() {
        BitSet[] bears = values(this::heat, true, true);
        due("bears", x.bears(walker, day, minute, from, to), soonestOf(bears));
        BitSet[] ice = values((v, shade) -> v + (shade ? w.cool() : w.hot()), true, false);
        int least = -1;
        for (int m = minute; m < 120; m++) {
            int melted = ice[m].nextSetBit(0);
            least = melted >= 0 && (least < 0 || melted < least) ? melted : least;
        }
        due("ice", x.ice(walker, day, minute, from, to), least < 0 ? -1 : Math.max(0, w.ice() - least));
    }

    /** The way can be gone, has the least, and no piece of it could be one ahead in order. */
    private void askWay() {
        long pieces = Check.orElse(() -> x.least(walker, day, minute, from, to, 2), THROWN);
        if (pieces == THROWN) {
            return;
        }
        int least = x.least(walker, day, minute, from, to, 0);
        int by = x.least(walker, day, minute, from, to, 1);
        int at = from;
        int m = minute;
        int sun = 0;
        int waits = 0;
        int row = 0;
        int most = 0;
        int place = -1;
        for (int i = 0; i < pieces; i++) {
            int piece = x.piece(walker, day, minute, from, to, i);
            for (int other = 0; other <= piece; other++) {
                int goal = other == 4 ? at : Model.step(at, other);
                int comes = m + (other == 4 ? 1 : w.pace());
                boolean can = goal >= 0 && model.kind[goal] != 1 && comes < 120
                        && (other == 4 || !model.isShut(day, comes, goal));
                int there = sun;
                for (int k = m; k < comes && can; k++) {
                    there += model.shady(day, k, at) ? 0 : 1;
                }
                int soonest = can ? x.soon(walker, day, comes, goal, to, least - there) : -1;
                due("way piece " + i + " as " + other, soonest >= 0 && soonest <= by ? 1 : 0, other == piece ? 1 : 0);
                if (other == piece) {
                    row = piece == 4 ? row + 1 : 0;
                    waits += piece == 4 ? 1 : 0;
                    place = row > most ? at : place;
                    most = Math.max(row, most);
                    at = goal;
                    m = comes;
                    sun = there;
                    break;
                }
            }
        }
        due("way's end", at, to);
        due("way's minute", m, by);
        due("way's sun", sun, least);
        due("piece behind", x.piece(walker, day, minute, from, to, (int) pieces), -1);
        due("rests", x.rests(walker, day, minute, from, to, 0), waits);
        due("rests most", x.rests(walker, day, minute, from, to, 1), most);
        due("rests square", x.rests(walker, day, minute, from, to, 2), place);
        due("rests more", x.rests(walker, day, minute, from, to, 3), pieces - waits - model.fewest(from, to));
    }

    // ---- one thing more

    private int leastWith(String more) {
        ShadySide other = new ShadySide();
        due("town with " + more, Check.town(other, text + more), 0);
        return other.least(walker, day, minute, from, to, 0);
    }

    private static String at(int square) {
        return " " + square % 10 + " " + square / 10 + " ";
    }

    private void askGarden(int seed) {
        long least = Check.orElse(() -> x.least(walker, day, minute, from, to, 0), THROWN);
        if (least == THROWN) {
            return;
        }
        int height = texts.between(1, 20);
        int[] plant = {(int) least, -1};
        int[] cover = {(int) least, -1};
        for (int s = 0; s < 100; s++) {
            if (model.kind[s] == 0) {
                better(plant, leastWith(" tree" + at(s) + height + ";"), s);
                better(cover, leastWith(" awning" + at(s) + "when 1;"), s);
            }
        }
        due("plant", x.plant(walker, day, minute, from, to, height, 0), plant[1]);
        due("plant gain", x.plant(walker, day, minute, from, to, height, 1), least - plant[0]);
        due("cover", x.cover(walker, day, minute, from, to, 0), cover[1]);
        due("cover gain", x.cover(walker, day, minute, from, to, 1), least - cover[0]);
        if (seed % 3 == 0) {
            askSpots((int) least, height);
        }
        x.mark(3, false);
        for (int s = 0; s < 100; s++) {
            due("pull", x.pull(s), model.kind[s] == 1 ? 1 : 0);
            if (model.kind[s] == 1) {
                int without = x.least(walker, day, minute, from, to, 0);
                due("goes back", x.mark(3, true) ? 1 : 0, 1);
                due("keeps " + s, x.keeps(walker, day, minute, from, to, s), without - least);
                due("still a house", x.square(s, 1), model.height[s]);
            }
        }
        due("least is as it was", x.least(walker, day, minute, from, to, 0), least);
    }

    private void due(String what, boolean got, int want) {
        due(what, got ? 1 : 0, want);
    }

    private static void better(int[] best, int sun, int choice) {
        if (sun < best[0]) {
            best[0] = sun;
            best[1] = choice;
        }
    }

    private void askSpots(int least, int height) {
        int[] spots = new int[4];
        int many = 0;
        for (int i = 0; i < 40 && many < 4; i++) {
            int s = texts.upTo(99);
            if (model.kind[s] == 0 && x.spot(s) >= 0) {
                spots[many] = s;
                many++;
            }
        }
        for (int most = 1; most <= 4; most++) {
            int[] best = {least, 0};
            for (int size = 1; size <= most; size++) {
                for (int set = 1; set < 1 << many; set++) {
                    if (Integer.bitCount(set) == size) {
                        StringBuilder more = new StringBuilder();
                        for (int i = 0; i < many; i++) {
                            more.append((set >> i & 1) == 1 ? " tree" + at(spots[i]) + height + ";" : "");
                        }
                        better(best, leastWith(more.toString()), set);
                    }
                }
            }
            due("spots " + most, x.spots(walker, day, minute, from, to, height, most, 0), best[1]);
            due("spots least " + most, x.spots(walker, day, minute, from, to, height, most, 1), best[0]);
        }
    }

    // ---- a whole day

    private void askDay() {
        int hours = 0;
        int dark = 0;
        int firstDark = -1;
        int soonest = -1;
        int[] leave = {-1, 1000, -1, -1};
        int last = texts.between(minute, 119);
        for (int m = 0; m < 120; m++) {
            hours += x.bears(walker, day, m, from, to) >= 0 ? 1 : 0;
            int comes = x.soon(walker, day, m, from, to, 0);
            if (comes >= 0) {
                dark++;
                firstDark = firstDark < 0 ? m : firstDark;
                soonest = soonest < 0 ? comes : Math.min(soonest, comes);
            }
            int begin = m;
            long sun = Check.orElse(() -> x.least(walker, day, begin, from, to, 0), THROWN);
            if (sun != THROWN && m >= minute && m <= last) {
                if (sun < leave[1]) {
                    leave[0] = m;
                    leave[1] = (int) sun;
                }
                if (sun > leave[3]) {
                    leave[2] = m;
                    leave[3] = (int) sun;
                }
            }
        }
        due("hours", x.hours(walker, day, from, to), hours);
        due("dark", x.dark(walker, day, from, to, 0), dark);
        due("dark first", x.dark(walker, day, from, to, 1), firstDark);
        due("dark soonest", x.dark(walker, day, from, to, 2), soonest);
        for (int what = 0; what < 4; what++) {
            due("leave " + last + " what " + what, x.leave(walker, day, minute, last, from, to, what),
                    leave[0] < 0 ? -1 : leave[what]);
        }
    }

    private void askErrandAndMeet() {
        int stay = texts.upTo(60);
        BitSet[] there = values(LongTest::sun, true, false);
        int sun = THROWN;
        int back = THROWN;
        for (int m = minute; m + stay < 120; m++) {
            int begin = m + stay;
            long home = Check.orElse(() -> x.least(walker, day, begin, to, from, 0), THROWN);
            if (there[m].isEmpty() || home == THROWN) {
                continue;
            }
            int all = there[m].nextSetBit(0) + (int) home;
            for (int k = m; k < begin; k++) {
                all += model.shady(day, k, to) ? 0 : 1;
            }
            int when = x.least(walker, day, begin, to, from, 1);
            if (sun == THROWN || all < sun || all == sun && when < back) {
                sun = all;
                back = when;
            }
        }
        due("errand " + stay, Check.orElse(() -> x.errand(walker, day, minute, from, to, stay, 0), THROWN), sun);
        due("errand's minute", Check.orElse(() -> x.errand(walker, day, minute, from, to, stay, 1), THROWN), back);
        askMeet();
    }

    private void askMeet() {
        int other = texts.upTo(5);
        int[] met = {THROWN, THROWN, THROWN};
        if (model.walkers[other] != null) {
            BitSet[][] one = allValues(LongTest::sun, w, from, -1, true, false);
            BitSet[][] two = allValues(LongTest::sun, model.walkers[other], to, -1, true, false);
            for (int m = minute; m < 120; m++) {
                for (int s = 0; s < 100; s++) {
                    int both = one[m][s].nextSetBit(0) + two[m][s].nextSetBit(0);
                    boolean can = !one[m][s].isEmpty() && !two[m][s].isEmpty();
                    if (can && (met[0] == THROWN || both < met[0])) {
                        met = new int[] {both, m, s};
                    }
                }
            }
        }
        for (int what = 0; what < 3; what++) {
            int which = what;
            due("meet " + other + " what " + what,
                    Check.orElse(() -> x.meet(walker, from, other, to, day, minute, which), THROWN), met[what]);
        }
    }
}

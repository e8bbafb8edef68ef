import java.util.ArrayList;
import java.util.Arrays;
import java.util.List;

/** The class beside the model, on many towns: what goes every way has to answer the same. */
public final class OracleTest {
    /** Stands for a NoSuchElementException. */
    private static final int THROWN = -99;
    private static final int SEEDS = 500;

    private final Texts texts;
    private final String text;
    private final ShadySide x;
    private final Model model;
    private final int corner;
    private String asked = "";

    private OracleTest(int seed) {
        texts = new Texts(seed);
        text = seed % 2 == 0 ? texts.patchwork(true) : texts.town(seed % 4 != 1);
        x = Check.made(text);
        model = Model.read(text);
        corner = cornerOf();
    }

    public static void main(String[] args) {
        for (int seed = 0; seed < SEEDS; seed++) {
            OracleTest test = new OracleTest(seed);
            test.lookAround();
            for (int i = 0; i < 6; i++) {
                test.askTrip();
            }
        }
        Check.end();
    }

    /** Trips start near the first thing that is told, as there is something to go round. */
    private int cornerOf() {
        for (int s = 0; s < 100; s++) {
            if (model.kind[s] != 0) {
                return s;
            }
        }
        return 44;
    }

    private int near(int square, int far) {
        int px = Math.max(0, Math.min(9, square % 10 + texts.between(-far, far)));
        int py = Math.max(0, Math.min(9, square / 10 + texts.between(-far, far)));
        return 10 * py + px;
    }

    private void due(String what, long got, long want) {
        Check.due(what + " " + asked + " of\n" + text + "\n", got, want);
    }

    // ---- without a trip

    private void lookAround() {
        int[] kinds = new int[4];
        for (int s = 0; s < 100; s++) {
            kinds[model.kind[s]]++;
            due("square " + s, x.square(s, 0), model.kind[s]);
            due("height " + s, x.square(s, 1), model.height[s]);
        }
        int walkers = 0;
        for (Model.Walker w : model.walkers) {
            walkers += w == null ? 0 : 1;
        }
        int[] counts = {kinds[1], kinds[2], kinds[3], model.awnings.size(), model.shuts.size(), model.lines.size(),
            walkers, 0, 0, 0, 0, model.waters};
        for (int what = 0; what < counts.length; what++) {
            due("count " + what, x.count(what), counts[what]);
        }
        for (int i = 0; i < 40; i++) {
            int day = texts.upTo(3);
            int minute = texts.lateMinute();
            int s = texts.upTo(99);
            asked = day + " " + minute + " " + s;
            due("shade", x.shade(day, minute, s), model.shady(day, minute, s) ? 1 : 0);
            due("shutAt", x.shutAt(day, minute, s), model.isShut(day, minute, s) ? 1 : 0);
        }
        for (int day = 0; day < 4; day++) {
            lookAtDay(day);
        }
    }

    private void lookAtDay(int day) {
        int s = texts.upTo(99);
        int minute = texts.upTo(119);
        asked = day + " " + minute + " " + s;
        int[] first = {-1, -1};
        for (int m = 119; m >= minute; m--) {
            first[model.shady(day, m, s) ? 1 : 0] = m;
        }
        due("when dark", x.when(day, minute, s, true), first[1]);
        due("when light", x.when(day, minute, s, false), first[0]);
        int late = Math.max(1, texts.lateMinute());
        int dim = 0;
        int came = 0;
        int went = 0;
        for (int q = 0; q < 100; q++) {
            boolean now = model.kind[q] != 1 && model.shady(day, late, q);
            boolean old = model.kind[q] != 1 && model.shady(day, late - 1, q);
            dim += now ? 1 : 0;
            came += now && !old ? 1 : 0;
            went += old && !now ? 1 : 0;
        }
        asked = day + " " + late;
        due("dim", x.dim(day, late), dim);
        due("edges came", x.edges(day, late, true), came);
        due("edges went", x.edges(day, late, false), went);
        int start = 120;
        for (Model.Line line : model.lines) {
            start = line.day() == day ? Math.min(start, line.minute()) : start;
        }
        int best = -1;
        int most = -1;
        for (int m = start; m < 120; m++) {
            int many = 0;
            for (int q = 0; q < 100; q++) {
                many += model.kind[q] != 1 && model.shady(day, m, q) ? 1 : 0;
            }
            if (many > most) {
                most = many;
                best = m;
            }
        }
        due("broad minute", x.broad(day, 0), best);
        due("broad many", x.broad(day, 1), most);
    }

    // ---- trips

    private int walker;
    private Model.Walker w;
    private int day;
    private int minute;
    private int from;
    private int to;

    private void askTrip() {
        walker = texts.upTo(5);
        w = model.walkers[walker];
        day = texts.upTo(3);
        int span = w == null ? 5 : w.pace() == 1 ? 6 : w.pace() == 2 ? 8 : 9;
        minute = 119 - texts.between(texts.once(3) ? 0 : span - 2, span);
        from = near(corner, 2);
        to = near(from, w == null ? 1 : Math.max(1, 4 - w.pace()));
        asked = walker + " " + day + " " + minute + " " + from + " " + to;
        if (w == null || model.kind[from] == 1 || model.kind[to] == 1) {
            askWrong();
            return;
        }
        List<Model.Trip> trips = model.trips(w, day, minute, from, to);
        askLeast(trips);
        askPairs(trips);
        askBodies(trips);
        askGuessed();
        if (!trips.isEmpty()) {
            askCrowd(trips);
            askGarden(Model.best(trips).sun());
        }
        askLeave();
        askErrand(trips);
        askMeet();
        askTold();
        askProcession();
    }

    private void askWrong() {
        due("least", Check.orElse(() -> x.least(walker, day, minute, from, to, 0), THROWN), THROWN);
        due("piece", x.piece(walker, day, minute, from, to, 0), -1);
        due("soon", x.soon(walker, day, minute, from, to, 99), -1);
        due("both", x.both(walker, day, minute, from, to, 0, 0), -1);
        due("bears", x.bears(walker, day, minute, from, to), -1);
        due("hours", x.hours(walker, day, from, to), -1);
        due("ice", x.ice(walker, day, minute, from, to), -1);
        due("pays", x.pays(walker, day, minute, from, to), -1);
        due("dark", x.dark(walker, day, from, to, 0), -1);
        due("leave", x.leave(walker, day, 0, 119, from, to, 0), -1);
        due("guessed", Check.orElse(() -> x.guessed(walker, day, minute, from, to, 5, 9, 0), THROWN), THROWN);
        due("crowd", Check.orElse(() -> x.crowd(walker, day, minute, from, to, 119, 2, 1, 0), THROWN), THROWN);
        due("price", Check.orElse(() -> x.price(walker, day, minute, from, to, 119, 2, 1), THROWN), THROWN);
        due("plant", Check.orElse(() -> x.plant(walker, day, minute, from, to, 5, 0), THROWN), THROWN);
        due("spots", Check.orElse(() -> x.spots(walker, day, minute, from, to, 5, 1, 0), THROWN), THROWN);
        due("cover", Check.orElse(() -> x.cover(walker, day, minute, from, to, 0), THROWN), THROWN);
        due("rests", Check.orElse(() -> x.rests(walker, day, minute, from, to, 0), THROWN), THROWN);
        due("errand", Check.orElse(() -> x.errand(walker, day, minute, from, to, 0, 0), THROWN), THROWN);
        due("meet", Check.orElse(() -> x.meet(walker, from, walker, to, day, minute, 0), THROWN), THROWN);
    }

    private void askLeast(List<Model.Trip> trips) {
        Model.Trip best = Model.best(trips);
        long sun = Check.orElse(() -> x.least(walker, day, minute, from, to, 0), THROWN);
        due("least sun", sun, best == null ? THROWN : best.sun());
        due("least minute", Check.orElse(() -> x.least(walker, day, minute, from, to, 1), THROWN),
                best == null ? THROWN : best.minute());
        due("least pieces", Check.orElse(() -> x.least(walker, day, minute, from, to, 2), THROWN),
                best == null ? THROWN : best.way().length());
        int pieces = best == null ? 0 : best.way().length();
        for (int i = -1; i <= pieces; i++) {
            boolean none = i < 0 || i == pieces;
            due("piece " + i, x.piece(walker, day, minute, from, to, i), none ? -1 : best.way().charAt(i) - '0');
        }
        askRests(best);
    }

    private void askRests(Model.Trip best) {
        long[] want = {THROWN, THROWN, THROWN, THROWN};
        if (best != null) {
            int waits = 0;
            int row = 0;
            int most = 0;
            int where = -1;
            int m = minute;
            for (char piece : best.way().toCharArray()) {
                row = piece == '4' ? row + 1 : 0;
                waits += piece == '4' ? 1 : 0;
                if (row > most) {
                    most = row;
                    where = best.where()[m];
                }
                m += piece == '4' ? 1 : w.pace();
            }
            want = new long[] {waits, most, where, best.way().length() - waits - model.fewest(from, to)};
        }
        for (int what = 0; what < 4; what++) {
            int which = what;
            due("rests " + what, Check.orElse(() -> x.rests(walker, day, minute, from, to, which), THROWN),
                    want[what]);
        }
    }

    private void askPairs(List<Model.Trip> trips) {
        for (int sun = -1; sun <= 9; sun++) {
            int soonest = -1;
            for (Model.Trip t : trips) {
                if (t.sun() <= sun && (soonest < 0 || t.minute() < soonest)) {
                    soonest = t.minute();
                }
            }
            due("soon " + sun, x.soon(walker, day, minute, from, to, sun), soonest);
        }
        List<int[]> pairs = new ArrayList<>();
        for (int m = minute; m < 120; m++) {
            for (int sun = 0; sun < 120; sun++) {
                int mm = m;
                int s = sun;
                boolean is = trips.stream().anyMatch(t -> t.minute() == mm && t.sun() == s);
                boolean beaten = trips.stream().anyMatch(t -> t.minute() <= mm && t.sun() <= s
                        && (t.minute() != mm || t.sun() != s));
                if (is && !beaten) {
                    pairs.add(new int[] {m, sun});
                }
            }
        }
        for (int i = -1; i <= pairs.size(); i++) {
            boolean none = i < 0 || i == pairs.size();
            due("both minute " + i, x.both(walker, day, minute, from, to, i, 0), none ? -1 : pairs.get(i)[0]);
            due("both sun " + i, x.both(walker, day, minute, from, to, i, 1), none ? -1 : pairs.get(i)[1]);
        }
    }

    private void askBodies(List<Model.Trip> trips) {
        int bears = -1;
        int ice = -1;
        int straight = -1;
        int least = -1;
        for (Model.Trip t : trips) {
            if (t.greatestHeat() <= w.bears() && (bears < 0 || t.minute() < bears)) {
                bears = t.minute();
            }
            ice = Math.max(ice, t.ice());
            if (t.way().indexOf('4') < 0 && (straight < 0 || t.sun() < straight)) {
                straight = t.sun();
            }
            least = least < 0 || t.sun() < least ? t.sun() : least;
        }
        due("bears", x.bears(walker, day, minute, from, to), bears);
        due("ice", x.ice(walker, day, minute, from, to), ice);
        due("pays", x.pays(walker, day, minute, from, to), straight < 0 ? -1 : straight - least);
    }

    // ---- clouds

    /** The likely sun of the best choices, each made when the sky of its minute is seen: in tenths to the power. */
    private double likely(int m, int at, int end, int ten) {
        if (at == to) {
            return 0;
        }
        if (m >= end) {
            return Double.POSITIVE_INFINITY;
        }
        double sum = 0;
        for (int cloud = 0; cloud < 2; cloud++) {
            double weight = cloud == 1 ? ten / 10.0 : 1 - ten / 10.0;
            double now = cloud == 1 || model.shady(day, m, at) ? 0 : 1;
            double best = now + likely(m + 1, at, end, ten);
            double rest = now;
            for (int k = m + 1; k < m + w.pace() && k < 120; k++) {
                rest += model.shady(day, k, at) ? 0 : 1 - ten / 10.0;
            }
            int comes = m + w.pace();
            for (int piece = 0; piece < 4 && comes <= end; piece++) {
                int goal = Model.step(at, piece);
                if (goal >= 0 && model.kind[goal] != 1 && !model.isShut(day, comes, goal)) {
                    best = Math.min(best, rest + likely(comes, goal, end, ten));
                }
            }
            sum += weight == 0 ? 0 : weight * best;
        }
        return sum;
    }

    private void askGuessed() {
        int ten = texts.upTo(10);
        int t = texts.between(1, 4);
        double want = likely(minute, from, Math.min(119, minute + t), ten);
        long above = Check.orElse(() -> x.guessed(walker, day, minute, from, to, ten, t, 0), THROWN);
        long below = Check.orElse(() -> x.guessed(walker, day, minute, from, to, ten, t, 1), THROWN);
        String what = "guessed " + ten + " in " + t + ": " + above + "/" + below + " for " + want;
        if (want == Double.POSITIVE_INFINITY) {
            due(what, above, THROWN);
            due(what, below, THROWN);
        } else {
            boolean near = Math.abs((double) above / below - want) < 1e-9;
            due(what, near ? 1 : 0, 1);
            due(what + " lowest terms", java.math.BigInteger.valueOf(above)
                    .gcd(java.math.BigInteger.valueOf(below)).longValue(), 1);
        }
    }

    // ---- the crowd

    private int costBeside(Model.Trip t, List<Model.Trip> others, int each) {
        int cost = t.sun();
        for (Model.Trip other : others) {
            for (int m = 0; m < 120; m++) {
                cost += t.where()[m] >= 0 && t.where()[m] == other.where()[m] ? each : 0;
            }
        }
        return cost;
    }

    private Model.Trip cheapest(List<Model.Trip> trips, List<Model.Trip> others, int each) {
        Model.Trip best = null;
        int least = 0;
        for (Model.Trip t : trips) {
            int cost = costBeside(t, others, each);
            if (best == null || cost < least || cost == least && (t.minute() < best.minute()
                    || t.minute() == best.minute() && t.way().compareTo(best.way()) < 0)) {
                best = t;
                least = cost;
            }
        }
        return best;
    }

    private void askCrowd(List<Model.Trip> all) {
        int by = texts.once(2) ? 119 : texts.between(minute, 119);
        int n = texts.once(6) ? texts.between(1, 8) : texts.between(1, 4);
        int each = texts.once(3) ? texts.upTo(9) : texts.upTo(2);
        List<Model.Trip> trips = all.stream().filter(t -> t.minute() <= by).toList();
        if (trips.size() * n > 20000) {
            return;
        }
        long[] want = {THROWN, THROWN, THROWN, THROWN, THROWN};
        if (!trips.isEmpty()) {
            want = crowdOf(trips, n, each);
        }
        for (int what = 0; what < 4; what++) {
            int which = what;
            due("crowd by " + by + " n " + n + " each " + each + " what " + what, Check.orElse(
                    () -> x.crowd(walker, day, minute, from, to, by, n, each, which), THROWN), want[what]);
        }
        due("price by " + by + " n " + n + " each " + each,
                Check.orElse(() -> x.price(walker, day, minute, from, to, by, n, each), THROWN), want[4]);
    }

    private long[] crowdOf(List<Model.Trip> trips, int n, int each) {
        List<Model.Trip> chosen = new ArrayList<>();
        for (int i = 0; i < n; i++) {
            chosen.add(cheapest(trips, chosen, each));
        }
        int rounds = 0;
        boolean changed = true;
        while (changed) {
            changed = false;
            rounds++;
            for (int i = 0; i < n; i++) {
                List<Model.Trip> others = new ArrayList<>(chosen);
                others.remove(i);
                Model.Trip better = cheapest(trips, others, each);
                if (costBeside(better, others, each) < costBeside(chosen.get(i), others, each)) {
                    chosen.set(i, better);
                    changed = true;
                }
            }
        }
        long costs = 0;
        long sun = 0;
        long greatest = 0;
        for (int i = 0; i < n; i++) {
            List<Model.Trip> others = new ArrayList<>(chosen);
            others.remove(i);
            int cost = costBeside(chosen.get(i), others, each);
            costs += cost;
            sun += chosen.get(i).sun();
            greatest = Math.max(greatest, cost);
        }
        return new long[] {costs, sun, rounds, greatest, costs - (long) n * Model.best(trips).sun()};
    }

    // ---- trees, awnings, houses

    private void askGarden(int least) {
        if (texts.once(3)) {
            askPlant(least);
        } else if (texts.once(2)) {
            askCover(least);
        } else {
            askSpots(least);
        }
        askKeeps(least);
    }

    private void askPlant(int least) {
        int height = texts.once(2) ? texts.between(1, 9) : texts.between(1, 99);
        int best = least;
        int where = -1;
        for (int s = 0; s < 100; s++) {
            if (model.kind[s] == 0) {
                Model more = model.copy();
                more.kind[s] = 2;
                more.height[s] = height;
                int sun = sunBelow(more, best);
                if (sun < best) {
                    best = sun;
                    where = s;
                }
            }
        }
        int gain = least - best;
        int square = where;
        due("plant " + height, x.plant(walker, day, minute, from, to, height, 0), square);
        due("plant " + height + " gain", x.plant(walker, day, minute, from, to, height, 1), gain);
    }

    /** The least sun if that is below a limit, the limit otherwise; spares going every way where shade is equal. */
    private int sunBelow(Model more, int limit) {
        if (limit == 0) {
            return 0;
        }
        boolean same = true;
        for (int m = minute; m < 120 && same; m++) {
            for (int s = 0; s < 100 && same; s++) {
                boolean near = Math.abs(s % 10 - from % 10) + Math.abs(s / 10 - from / 10) <= 119 - minute;
                same = !near || more.shady(day, m, s) == model.shady(day, m, s);
            }
        }
        return same ? limit : Math.min(limit, more.leastSun(w, day, minute, from, to));
    }

    private void askCover(int least) {
        int best = least;
        int where = -1;
        for (int s = 0; s < 100; s++) {
            if (model.kind[s] != 1 && model.kind[s] != 2 && model.kind[s] != 3) {
                Model more = model.copy();
                more.awnings.add(new Model.Timed(s, (d, m) -> 1));
                int sun = sunBelow(more, best);
                if (sun < best) {
                    best = sun;
                    where = s;
                }
            }
        }
        due("cover", x.cover(walker, day, minute, from, to, 0), where);
        due("cover gain", x.cover(walker, day, minute, from, to, 1), least - best);
    }

    private void askSpots(int least) {
        x.mark(0, false);
        List<Integer> spots = new ArrayList<>();
        for (int i = texts.upTo(4); i > 0; i--) {
            int s = near(from, 2);
            boolean can = model.kind[s] == 0 && !spots.contains(s);
            due("spot " + s, x.spot(s), can ? spots.size() : -1);
            if (can) {
                spots.add(s);
            }
        }
        int many = texts.between(1, 3);
        int height = texts.between(1, 9);
        int best = least;
        int chosen = 0;
        for (int size = 0; size <= many; size++) {
            for (int set = 0; set < 1 << spots.size(); set++) {
                if (Integer.bitCount(set) == size) {
                    Model more = model.copy();
                    for (int i = 0; i < spots.size(); i++) {
                        if ((set >> i & 1) == 1) {
                            more.kind[spots.get(i)] = 2;
                            more.height[spots.get(i)] = height;
                        }
                    }
                    int sun = sunBelow(more, best);
                    if (sun < best) {
                        best = sun;
                        chosen = set;
                    }
                }
            }
        }
        String what = "spots " + spots + " height " + height + " many " + many;
        due(what, x.spots(walker, day, minute, from, to, height, many, 0), chosen);
        due(what + " least", x.spots(walker, day, minute, from, to, height, many, 1), best);
        due("count of spots", x.count(7), spots.size());
        x.mark(0, true);
        due("count of spots gone back", x.count(7), 0);
    }

    private void askKeeps(int least) {
        for (int s = 0; s < 100; s++) {
            int square = s;
            if (model.kind[s] == 1) {
                Model less = model.copy();
                less.kind[s] = 0;
                less.height[s] = 0;
                due("keeps " + s, x.keeps(walker, day, minute, from, to, s),
                        less.leastSun(w, day, minute, from, to) - least);
            } else if (texts.once(20)) {
                due("keeps " + s, Check.orElse(() -> x.keeps(walker, day, minute, from, to, square), THROWN),
                        THROWN);
            }
        }
    }

    // ---- when to leave, errands, meetings

    private void askLeave() {
        int last = texts.between(minute, 119);
        int[] want = {-1, -1, -1, -1};
        for (int m = minute; m <= last; m++) {
            int sun = model.leastSun(w, day, m, from, to);
            if (sun >= 0 && (want[0] < 0 || sun < want[1])) {
                want[0] = m;
                want[1] = sun;
            }
            if (sun >= 0 && (want[2] < 0 || sun > want[3])) {
                want[2] = m;
                want[3] = sun;
            }
        }
        for (int what = 0; what < 4; what++) {
            due("leave " + last + " " + what, x.leave(walker, day, minute, last, from, to, what), want[what]);
        }
    }

    private void askErrand(List<Model.Trip> there) {
        int stay = texts.once(2) ? 0 : texts.upTo(3);
        int sun = THROWN;
        int back = THROWN;
        for (int m = minute; m + stay < 120; m++) {
            int best = -1;
            for (Model.Trip t : there) {
                best = t.minute() == m && (best < 0 || t.sun() < best) ? t.sun() : best;
            }
            Model.Trip home = best < 0 ? null : Model.best(model.trips(w, day, m + stay, to, from));
            if (home == null) {
                continue;
            }
            int all = best + home.sun();
            for (int k = m; k < m + stay; k++) {
                all += model.shady(day, k, to) ? 0 : 1;
            }
            if (sun == THROWN || all < sun || all == sun && home.minute() < back) {
                sun = all;
                back = home.minute();
            }
        }
        due("errand " + stay, Check.orElse(() -> x.errand(walker, day, minute, from, to, stay, 0), THROWN), sun);
        due("errand minute " + stay, Check.orElse(() -> x.errand(walker, day, minute, from, to, stay, 1), THROWN),
                back);
    }

    private void askMeet() {
        int other = texts.upTo(5);
        Model.Walker second = model.walkers[other];
        int late = Math.max(minute, texts.between(114, 119));
        int[] want = {THROWN, THROWN, THROWN};
        if (second != null) {
            int[][] one = walks(w, late, from);
            int[][] two = walks(second, late, to);
            for (int m = late; m < 120; m++) {
                for (int s = 0; s < 100; s++) {
                    int sum = one[m][s] + two[m][s];
                    if (sum < 1000 && (want[0] == THROWN || sum < want[0])) {
                        want = new int[] {sum, m, s};
                    }
                }
            }
        }
        for (int what = 0; what < 3; what++) {
            int which = what;
            due("meet " + other + " at " + late + " what " + what,
                    Check.orElse(() -> x.meet(walker, from, other, to, day, late, which), THROWN), want[what]);
        }
    }

    /** The least sun to be on each square in each minute. */
    private int[][] walks(Model.Walker who, int begin, int start) {
        int[][] least = new int[120][100];
        for (int[] row : least) {
            Arrays.fill(row, 1000);
        }
        for (Model.Trip t : model.trips(who, day, begin, start, -1)) {
            int end = start;
            for (char piece : t.way().toCharArray()) {
                end = piece == '4' ? end : Model.step(end, piece - '0');
            }
            least[t.minute()][end] = Math.min(least[t.minute()][end], t.sun());
        }
        return least;
    }

    // ---- what is told

    private void askTold() {
        x.clear();
        int[] want = {-1, 0, 0, 0, 0, minute, from};
        int[] so = {0, 0, 0, w.ice()};
        boolean goes = true;
        int pieces = texts.upTo(8);
        for (int i = 0; i < pieces; i++) {
            int piece = texts.upTo(4);
            due("tell", x.tell(piece), i + 1);
            int goal = piece == 4 ? want[6] : Model.step(want[6], piece);
            int comes = want[5] + (piece == 4 ? 1 : w.pace());
            int why = goal < 0 ? 1 : model.kind[goal] == 1 ? 2 : comes > 119 ? 3
                    : piece < 4 && model.isShut(day, comes, goal) ? 4 : 0;
            if (goes && why > 0) {
                want[0] = i;
                want[1] = why;
                goes = false;
            }
            if (goes) {
                for (int m = want[5]; m < comes; m++) {
                    Model.spend(w, so, model.shady(day, m, want[6]));
                }
                so[1] = piece < 4 && model.water[goal] ? 0 : so[1];
                want[5] = comes;
                want[6] = goal;
            }
        }
        want[2] = so[0];
        want[3] = so[2];
        want[4] = Math.max(0, so[3]);
        for (int what = 0; what < 7; what++) {
            due("judged " + what, x.judged(walker, day, minute, from, what), want[what]);
        }
    }

    private void askProcession() {
        x.clear();
        List<Integer> squares = new ArrayList<>();
        int at = from;
        for (int i = texts.upTo(7); i > 0; i--) {
            boolean next = squares.isEmpty();
            for (int piece = 0; piece < 4 && !next; piece++) {
                next = Model.step(squares.get(squares.size() - 1), piece) == at;
            }
            boolean can = next && model.kind[at] != 1;
            if (can) {
                squares.add(at);
            }
            due("follow " + at, x.follow(at), can ? squares.size() : -1);
            int goal = Model.step(squares.isEmpty() ? from : squares.get(squares.size() - 1), texts.upTo(3));
            at = goal < 0 || texts.once(8) ? near(from, 2) : goal;
        }
        int pace = texts.between(1, 3);
        int begin = texts.between(90, 119);
        int end = texts.between(begin, 119);
        int best = -1;
        int least = -1;
        for (int m = begin; m <= end; m++) {
            int sun = -1;
            if (!squares.isEmpty() && m + (squares.size() - 1) * pace <= 119) {
                sun = 0;
                for (int i = 0; i + 1 < squares.size(); i++) {
                    for (int k = 0; k < pace; k++) {
                        sun += model.shady(day, m + i * pace + k, squares.get(i)) ? 0 : 1;
                    }
                }
            }
            due("parade " + squares + " from " + m + " pace " + pace, x.parade(day, m, pace), sun);
            if (sun >= 0 && (best < 0 || sun < least)) {
                best = m;
                least = sun;
            }
        }
        due("start " + squares + " " + begin + " to " + end + " pace " + pace, x.start(day, begin, end, pace), best);
    }
}

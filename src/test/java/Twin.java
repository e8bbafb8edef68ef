import java.math.BigInteger;
import java.util.ArrayList;
import java.util.Arrays;
import java.util.List;
import java.util.NoSuchElementException;
import java.util.function.IntBinaryOperator;

/**
 * The whole object once more: the face of the class, each answer worked out anew from the words of the document,
 * as plainly as may be. Nothing is kept between calls but what was told and the shade.
 */
public final class Twin {
    private static final int NONE = -1;
    private static final long NEVER = Long.MAX_VALUE / 4;
    private static final int[] STEP_X = {0, 1, 0, -1};
    private static final int[] STEP_Y = {-1, 0, 1, 0};
    private static final List<String> SUN_STANDS = List.of("north", "northeast", "east", "southeast", "south",
            "southwest", "west", "northwest");

    /** What a text tells, and what the calls tell besides. */
    private static final class Place {
        final String[] what = new String[100];
        final int[] height = new int[100];
        final List<Integer> awningAt = new ArrayList<>();
        final List<IntBinaryOperator> awningWhen = new ArrayList<>();
        final List<Integer> shutAt = new ArrayList<>();
        final List<IntBinaryOperator> shutWhen = new ArrayList<>();
        final List<Integer> water = new ArrayList<>();
        final List<int[]> sun = new ArrayList<>();
        final int[][] walker = new int[6][];
        final List<Integer> spots = new ArrayList<>();
        final List<Integer> procession = new ArrayList<>();
        final List<Integer> told = new ArrayList<>();
        final Boolean[][][] shade = new Boolean[4][120][100];

        Place() {
            Arrays.fill(what, "nothing");
        }

        Place copy() {
            Place p = new Place();
            System.arraycopy(what, 0, p.what, 0, 100);
            System.arraycopy(height, 0, p.height, 0, 100);
            p.awningAt.addAll(awningAt);
            p.awningWhen.addAll(awningWhen);
            p.shutAt.addAll(shutAt);
            p.shutWhen.addAll(shutWhen);
            p.water.addAll(water);
            p.sun.addAll(sun);
            System.arraycopy(walker, 0, p.walker, 0, 6);
            p.spots.addAll(spots);
            p.procession.addAll(procession);
            p.told.addAll(told);
            return p;
        }

        boolean house(int square) {
            return what[square].equals("house");
        }

        boolean roof(int square) {
            return what[square].equals("tree") || what[square].equals("arcade");
        }

        boolean inShade(int day, int minute, int square) {
            if (shade[day][minute][square] == null) {
                shade[day][minute][square] = isShade(day, minute, square);
            }
            return shade[day][minute][square];
        }

        private boolean isShade(int day, int minute, int square) {
            int[] line = null;
            for (int[] one : sun) {
                line = one[0] == day && one[1] <= minute ? one : line;
            }
            if (line == null || roof(square)) {
                return true;
            }
            for (int i = 0; i < awningAt.size(); i++) {
                if (awningAt.get(i) == square && awningWhen.get(i).applyAsInt(day, minute) != 0) {
                    return true;
                }
            }
            String stands = SUN_STANDS.get(line[2]);
            int dx = stands.endsWith("east") ? 1 : stands.endsWith("west") ? -1 : 0;
            int dy = stands.startsWith("north") ? -1 : stands.startsWith("south") ? 1 : 0;
            for (int k = 1; k < 10; k++) {
                int x = square % 10 + k * dx;
                int y = square / 10 + k * dy;
                boolean inTown = x >= 0 && x <= 9 && y >= 0 && y <= 9;
                if (inTown && !what[10 * y + x].equals("arcade") && height[10 * y + x] * line[4] > k * line[3]) {
                    return true;
                }
            }
            return false;
        }

        boolean shut(int day, int minute, int square) {
            for (int i = 0; i < shutAt.size(); i++) {
                if (shutAt.get(i) == square && shutWhen.get(i).applyAsInt(day, minute) != 0) {
                    return true;
                }
            }
            return false;
        }

        /** The next square, NONE if there is none that can be stood on. */
        int next(int square, int piece) {
            int x = square % 10 + STEP_X[piece];
            int y = square / 10 + STEP_Y[piece];
            return x < 0 || x > 9 || y < 0 || y > 9 || house(10 * y + x) ? NONE : 10 * y + x;
        }
    }

    private Place place = new Place();
    private final Place[] marks = new Place[4];
    private String tape = "";

    // ---- the language

    private static final class Fault extends RuntimeException {
        private static final long serialVersionUID = 1L;
        final int number;

        Fault(int kind, int at) {
            number = kind + 16 * at;
        }
    }

    private static final class Tongue {
        final String text;
        final Place place = new Place();
        int at;
        int within;

        Tongue(String text) {
            this.text = text;
        }

        int begin() {
            while (at < text.length() && (text.charAt(at) == '\n' || text.charAt(at) == ' ')) {
                at++;
            }
            return at;
        }

        /** The token that begins here, "" at the end; "?" for none. */
        String peek() {
            begin();
            if (at == text.length()) {
                return "";
            }
            int end = at;
            if (Character.isDigit(text.charAt(at))) {
                while (end < text.length() && Character.isDigit(text.charAt(end))) {
                    end++;
                }
                return end - at > 4 ? "?" : text.substring(at, end);
            }
            while (end < text.length() && Character.isLowerCase(text.charAt(end))) {
                end++;
            }
            if (end > at) {
                return end - at > 9 ? "?" : text.substring(at, end);
            }
            return "()<=+-*;".contains(text.substring(at, at + 1)) ? text.substring(at, at + 1) : "?";
        }

        boolean sees(String token) {
            return peek().equals(token);
        }

        boolean seesNumber() {
            return !peek().isEmpty() && Character.isDigit(peek().charAt(0));
        }

        void take() {
            at = begin() + peek().length();
        }

        void take(String token) {
            if (!sees(token)) {
                throw new Fault(1, begin());
            }
            take();
        }

        int number(int low, int high) {
            if (!seesNumber()) {
                throw new Fault(1, begin());
            }
            int n = Integer.parseInt(peek());
            if (n < low || n > high) {
                throw new Fault(4, begin());
            }
            take();
            return n;
        }

        int square(boolean alone) {
            int x = number(0, 9);
            int place = begin();
            int y = number(0, 9);
            if (alone && !this.place.what[10 * y + x].equals("nothing")) {
                throw new Fault(3, place);
            }
            return 10 * y + x;
        }

        Place town() {
            while (!sees("")) {
                String word = peek();
                int many = place.awningAt.size() + place.shutAt.size();
                boolean full = (word.equals("awning") || word.equals("shut")) && many == 20
                        || word.equals("sun") && place.sun.size() == 24
                        || word.equals("water") && place.water.size() == 10;
                if (full) {
                    throw new Fault(5, begin());
                }
                int head = begin();
                take();
                switch (word) {
                    case "house", "tree" -> {
                        int square = square(true);
                        place.height[square] = number(1, 99);
                        place.what[square] = word;
                    }
                    case "arcade" -> place.what[square(true)] = word;
                    case "awning" -> {
                        place.awningAt.add(square(false));
                        take("when");
                        place.awningWhen.add(e());
                    }
                    case "shut" -> {
                        place.shutAt.add(square(false));
                        take("when");
                        place.shutWhen.add(e());
                    }
                    case "water" -> place.water.add(square(false));
                    case "sun" -> sun();
                    case "walker" -> walker();
                    default -> throw new Fault(1, head);
                }
                take(";");
            }
            return place;
        }

        void sun() {
            int day = number(0, 3);
            take("from");
            int at = begin();
            int minute = number(0, 119);
            for (int[] line : place.sun) {
                if (line[0] == day && line[1] >= minute) {
                    throw new Fault(3, at);
                }
            }
            int direction = SUN_STANDS.indexOf(peek());
            if (direction < 0) {
                throw new Fault(1, begin());
            }
            take();
            int over = number(1, 99);
            take("over");
            place.sun.add(new int[] {day, minute, direction, over, number(1, 99)});
        }

        void walker() {
            int at = begin();
            int n = number(0, 5);
            if (place.walker[n] != null) {
                throw new Fault(3, at);
            }
            int[] w = new int[6];
            String[] words = {"pace", "bears", "mends", "ice", "hot", "cool"};
            int[] low = {1, 1, 1, 0, 0, 0};
            int[] high = {3, 99, 99, 9999, 99, 99};
            for (int i = 0; i < 6; i++) {
                take(words[i]);
                w[i] = number(low[i], high[i]);
            }
            place.walker[n] = w;
        }

        IntBinaryOperator e() {
            IntBinaryOperator a = test();
            while (sees("and") || sees("or")) {
                boolean and = sees("and");
                take();
                IntBinaryOperator left = a;
                IntBinaryOperator right = test();
                a = (d, m) -> {
                    boolean l = left.applyAsInt(d, m) != 0;
                    boolean r = right.applyAsInt(d, m) != 0;
                    return (and ? l && r : l || r) ? 1 : 0;
                };
            }
            return a;
        }

        IntBinaryOperator test() {
            IntBinaryOperator left = sum();
            if (!sees("<") && !sees("=")) {
                return left;
            }
            boolean less = sees("<");
            take();
            IntBinaryOperator right = sum();
            return (d, m) -> {
                int l = left.applyAsInt(d, m);
                int r = right.applyAsInt(d, m);
                return (less ? l < r : l == r) ? 1 : 0;
            };
        }

        IntBinaryOperator sum() {
            IntBinaryOperator a = product();
            while (sees("+") || sees("-")) {
                int sign = sees("+") ? 1 : -1;
                take();
                IntBinaryOperator left = a;
                IntBinaryOperator right = product();
                a = (d, m) -> left.applyAsInt(d, m) + sign * right.applyAsInt(d, m);
            }
            return a;
        }

        IntBinaryOperator product() {
            IntBinaryOperator a = part();
            while (sees("*")) {
                take();
                IntBinaryOperator left = a;
                IntBinaryOperator right = part();
                a = (d, m) -> left.applyAsInt(d, m) * right.applyAsInt(d, m);
            }
            return a;
        }

        IntBinaryOperator part() {
            if (!seesNumber() && !sees("minute") && !sees("day") && !sees("not") && !sees("(")) {
                throw new Fault(1, begin());
            }
            if (within == 5) {
                throw new Fault(5, begin());
            }
            String token = peek();
            take();
            if (token.equals("minute")) {
                return (d, m) -> m;
            }
            if (token.equals("day")) {
                return (d, m) -> d;
            }
            if (!token.equals("not") && !token.equals("(")) {
                int n = Integer.parseInt(token);
                return (d, m) -> n;
            }
            within++;
            IntBinaryOperator inner = token.equals("(") ? e() : part();
            if (token.equals("(")) {
                take(")");
            }
            within--;
            return token.equals("(") ? inner : (d, m) -> inner.applyAsInt(d, m) == 0 ? 1 : 0;
        }
    }

    public int feed(long a, long b, long c) {
        for (long word : new long[] {a, b, c}) {
            for (int i = 7; i >= 0; i--) {
                char sign = (char) (word >> 8 * i & 255);
                if ((sign == 10 || sign >= 32 && sign <= 126) && tape.length() < 1000) {
                    tape += sign;
                }
            }
        }
        return tape.length();
    }

    public int town() {
        String text = tape;
        tape = "";
        try {
            place = new Tongue(text).town();
            return 0;
        } catch (Fault fault) {
            return fault.number;
        }
    }

    // ---- what is there

    private static boolean isSquare(int square) {
        return square >= 0 && square <= 99;
    }

    private static boolean isMinute(int minute) {
        return minute >= 0 && minute <= 119;
    }

    private static boolean isTime(int day, int minute) {
        return day >= 0 && day <= 3 && isMinute(minute);
    }

    private static boolean is(int value, int low, int high) {
        return value >= low && value <= high;
    }

    public int square(int square, int what) {
        if (!isSquare(square) || !is(what, 0, 1)) {
            return NONE;
        }
        List<String> kinds = List.of("nothing", "house", "tree", "arcade");
        return what == 1 ? place.height[square] : kinds.indexOf(place.what[square]);
    }

    public int shade(int day, int minute, int square) {
        return !isTime(day, minute) || !isSquare(square) ? NONE : place.inShade(day, minute, square) ? 1 : 0;
    }

    public int when(int day, int minute, int square, boolean dark) {
        if (isTime(day, minute) && isSquare(square)) {
            for (int m = minute; m < 120; m++) {
                if (place.inShade(day, m, square) == dark) {
                    return m;
                }
            }
        }
        return NONE;
    }

    public int dim(int day, int minute) {
        if (!isTime(day, minute)) {
            return NONE;
        }
        int n = 0;
        for (int s = 0; s < 100; s++) {
            n += !place.house(s) && place.inShade(day, minute, s) ? 1 : 0;
        }
        return n;
    }

    public int shutAt(int day, int minute, int square) {
        return !isTime(day, minute) || !isSquare(square) ? NONE : place.shut(day, minute, square) ? 1 : 0;
    }

    public int broad(int day, int what) {
        if (!is(day, 0, 3) || !is(what, 0, 1)) {
            return NONE;
        }
        int begin = 120;
        for (int[] line : place.sun) {
            begin = line[0] == day ? Math.min(begin, line[1]) : begin;
        }
        int best = NONE;
        for (int m = begin; m < 120; m++) {
            best = best == NONE || dim(day, m) > dim(day, best) ? m : best;
        }
        return best == NONE || what == 0 ? best : dim(day, best);
    }

    public int edges(int day, int minute, boolean came) {
        if (!isTime(day, minute) || minute == 0) {
            return NONE;
        }
        int n = 0;
        for (int s = 0; s < 100; s++) {
            boolean now = place.inShade(day, minute, s);
            boolean before = place.inShade(day, minute - 1, s);
            n += !place.house(s) && now != before && now == came ? 1 : 0;
        }
        return n;
    }

    public boolean pull(int square) {
        if (!isSquare(square) || !place.house(square)) {
            return false;
        }
        place = pulled(square);
        return true;
    }

    private Place pulled(int square) {
        Place p = place.copy();
        p.what[square] = "nothing";
        p.height[square] = 0;
        return p;
    }

    public boolean mark(int mark, boolean back) {
        if (!is(mark, 0, 3) || back && marks[mark] == null) {
            return false;
        }
        if (back) {
            place = marks[mark].copy();
        } else {
            marks[mark] = place.copy();
        }
        return true;
    }

    public int count(int what) {
        int[] kinds = new int[3];
        for (int s = 0; s < 100; s++) {
            int kind = square(s, 0);
            if (kind > 0) {
                kinds[kind - 1]++;
            }
        }
        int walkers = 0;
        for (int[] w : place.walker) {
            walkers += w == null ? 0 : 1;
        }
        int[] all = {kinds[0], kinds[1], kinds[2], place.awningAt.size(), place.shutAt.size(), place.sun.size(),
            walkers, place.spots.size(), place.procession.size(), place.told.size(), tape.length(), place.water.size()};
        return is(what, 0, 11) ? all[what] : NONE;
    }

    // ---- trips

    /** All about one asked trip: whether it can be asked, and the ways of it. */
    private static final class Trips {
        final Place town;
        final int[] w;
        final int day;
        final int minute;
        final int from;
        final int to;
        int by = 119;
        int hot = 1;
        int cool = 0;
        boolean waits = true;
        int[][] others = new int[120][100];

        Trips(Place town, int walker, int day, int minute, int from, int to) {
            if (!is(walker, 0, 5) || town.walker[walker] == null || !isTime(day, minute) || !isSquare(from)
                    || !isSquare(to) || town.house(from) || town.house(to)) {
                throw new NoSuchElementException();
            }
            this.town = town;
            this.w = town.walker[walker];
            this.day = day;
            this.minute = minute;
            this.from = from;
            this.to = to;
        }

        int pace() {
            return w[0];
        }

        boolean sun(int m, int s) {
            return !town.inShade(day, m, s);
        }

        long cost(int m, int s) {
            return (sun(m, s) ? hot : cool) + others[m][s];
        }

        /** Where a piece leads from a square in a minute: NONE if it can't be. */
        int goal(int m, int s, int piece) {
            if (piece == 4) {
                return waits && m + 1 <= by ? s : NONE;
            }
            int goal = town.next(s, piece);
            boolean can = goal != NONE && m + pace() <= by && !town.shut(day, m + pace(), goal);
            return can ? goal : NONE;
        }

        int takes(int piece) {
            return piece == 4 ? 1 : pace();
        }

        long cost(int m, int s, int piece) {
            long sum = 0;
            for (int i = 0; i < takes(piece); i++) {
                sum += cost(m + i, s);
            }
            return sum;
        }

        /** By minute and square the least (cost * 1000 + minute of coming) of the trips from there. */
        long[][] best() {
            long[][] best = new long[120][100];
            for (int m = 119; m >= 0; m--) {
                for (int s = 0; s < 100; s++) {
                    best[m][s] = NEVER;
                    if (s == to) {
                        best[m][s] = m <= by ? m : NEVER;
                        continue;
                    }
                    for (int piece = 0; piece < 5 && !town.house(s); piece++) {
                        int goal = goal(m, s, piece);
                        if (goal != NONE && best[m + takes(piece)][goal] < NEVER) {
                            best[m][s] = Math.min(best[m][s], 1000 * cost(m, s, piece) + best[m + takes(piece)][goal]);
                        }
                    }
                }
            }
            return best;
        }

        long least() {
            long least = best()[minute][from];
            if (least == NEVER) {
                throw new NoSuchElementException();
            }
            return least;
        }

        List<Integer> way() {
            long[][] best = best();
            List<Integer> way = new ArrayList<>();
            int m = minute;
            int s = from;
            while (s != to) {
                for (int piece = 0; piece < 5; piece++) {
                    int goal = goal(m, s, piece);
                    if (goal != NONE && best[m + takes(piece)][goal] < NEVER
                            && 1000 * cost(m, s, piece) + best[m + takes(piece)][goal] == best[m][s]) {
                        way.add(piece);
                        m += takes(piece);
                        s = goal;
                        break;
                    }
                }
            }
            return way;
        }

        /** By minute and square the least cost with which one can come there, going no further from an end. */
        long[][] come(int end) {
            long[][] come = new long[120][100];
            for (long[] row : come) {
                Arrays.fill(row, NEVER);
            }
            come[minute][from] = 0;
            for (int m = minute; m < 120; m++) {
                for (int s = 0; s < 100; s++) {
                    for (int piece = 0; piece < 5 && s != end && come[m][s] < NEVER; piece++) {
                        int goal = goal(m, s, piece);
                        if (goal != NONE) {
                            long[] row = come[m + takes(piece)];
                            row[goal] = Math.min(row[goal], come[m][s] + cost(m, s, piece));
                        }
                    }
                }
            }
            return come;
        }

        /** The soonest minute in which one comes whose heat was never above what he bears; NONE. */
        int borne() {
            boolean[][][] be = new boolean[120][100][w[1] + 1];
            be[minute][from][0] = true;
            for (int m = minute; m < 120; m++) {
                for (int h = 0; h <= w[1]; h++) {
                    if (be[m][to][h]) {
                        return m;
                    }
                }
                for (int s = 0; s < 100; s++) {
                    for (int h = 0; h <= w[1]; h++) {
                        for (int piece = 0; piece < 5 && be[m][s][h]; piece++) {
                            bear(be, m, s, h, piece);
                        }
                    }
                }
            }
            return NONE;
        }

        private void bear(boolean[][][] be, int m, int s, int h, int piece) {
            int goal = goal(m, s, piece);
            int heat = h;
            for (int i = 0; i < takes(piece) && goal != NONE; i++) {
                heat = sun(m + i, s) ? heat + 1 : Math.max(0, heat - w[2]);
                if (heat > w[1]) {
                    return;
                }
            }
            if (goal != NONE) {
                be[m + takes(piece)][goal][piece < 4 && town.water.contains(goal) ? 0 : heat] = true;
            }
        }

        /** Ten to the power of the minutes left times the sun that is likely from here: one chooses at each cloud. */
        BigInteger likely(int ten, BigInteger[][] known, int m, int s) {
            if (s == to) {
                return BigInteger.ZERO;
            }
            if (known[m][s] != null) {
                return known[m][s];
            }
            BigInteger sum = BigInteger.ZERO;
            for (int cloud = 0; cloud < 2; cloud++) {
                BigInteger best = null;
                for (int piece = 0; piece < 5; piece++) {
                    BigInteger likely = likely(ten, known, m, s, piece, cloud == 1);
                    best = likely != null && (best == null || likely.compareTo(best) < 0) ? likely : best;
                }
                if (best == null) {
                    known[m][s] = BigInteger.ONE.negate();
                    return known[m][s];
                }
                sum = sum.add(best.multiply(BigInteger.valueOf(cloud == 1 ? ten : 10 - ten)));
            }
            known[m][s] = sum;
            return sum;
        }

        /** So much beside 10 ^ (by - m - 1), null if the piece can't be or leads nowhere. */
        private BigInteger likely(int ten, BigInteger[][] known, int m, int s, int piece, boolean cloud) {
            int goal = goal(m, s, piece);
            BigInteger behind = goal == NONE ? null : likely(ten, known, m + takes(piece), goal);
            if (behind == null || behind.signum() < 0) {
                return null;
            }
            int left = by - m - 1;
            BigInteger sum = behind.multiply(BigInteger.TEN.pow(takes(piece) - 1));
            for (int i = 0; i < takes(piece); i++) {
                if (sun(m + i, s)) {
                    BigInteger whole = BigInteger.TEN.pow(left);
                    sum = sum.add(i > 0 ? whole.divide(BigInteger.TEN).multiply(BigInteger.valueOf(10 - ten))
                            : cloud ? BigInteger.ZERO : whole);
                }
            }
            return sum;
        }
    }

    private Trips trips(int walker, int day, int minute, int from, int to) {
        return new Trips(place, walker, day, minute, from, to);
    }

    private static void ask(boolean good) {
        if (!good) {
            throw new NoSuchElementException();
        }
    }

    public int least(int walker, int day, int minute, int from, int to, int what) {
        ask(is(what, 0, 2));
        Trips t = trips(walker, day, minute, from, to);
        long least = t.least();
        return what == 0 ? (int) (least / 1000) : what == 1 ? (int) (least % 1000) : t.way().size();
    }

    private interface Answer {
        int answer();
    }

    private static int orNone(Answer a) {
        try {
            return a.answer();
        } catch (NoSuchElementException e) {
            return NONE;
        }
    }

    public int piece(int walker, int day, int minute, int from, int to, int i) {
        return orNone(() -> {
            Trips t = trips(walker, day, minute, from, to);
            t.least();
            List<Integer> way = t.way();
            return i < 0 || i >= way.size() ? NONE : way.get(i);
        });
    }

    public int soon(int walker, int day, int minute, int from, int to, int sun) {
        return orNone(() -> {
            Trips t = trips(walker, day, minute, from, to);
            long[][] come = t.come(to);
            for (int m = 0; m < 120; m++) {
                if (come[m][to] <= sun) {
                    return m;
                }
            }
            return NONE;
        });
    }

    public int both(int walker, int day, int minute, int from, int to, int i, int what) {
        return orNone(() -> {
            ask(is(what, 0, 1) && i >= 0);
            long[][] come = trips(walker, day, minute, from, to).come(to);
            int left = i;
            for (int m = 0; m < 120; m++) {
                boolean good = come[m][to] < NEVER;
                for (int n = 0; n < m; n++) {
                    good &= come[n][to] > come[m][to];
                }
                if (good && left-- == 0) {
                    return what == 0 ? m : (int) come[m][to];
                }
            }
            return NONE;
        });
    }

    public int bears(int walker, int day, int minute, int from, int to) {
        return orNone(() -> trips(walker, day, minute, from, to).borne());
    }

    public int hours(int walker, int day, int from, int to) {
        return orNone(() -> {
            int n = 0;
            for (int m = 0; m < 120; m++) {
                n += trips(walker, day, m, from, to).borne() == NONE ? 0 : 1;
            }
            return n;
        });
    }

    public int ice(int walker, int day, int minute, int from, int to) {
        return orNone(() -> {
            Trips t = trips(walker, day, minute, from, to);
            t.hot = t.w[4];
            t.cool = t.w[5];
            return (int) Math.max(0, t.w[3] - t.least() / 1000);
        });
    }

    public int pays(int walker, int day, int minute, int from, int to) {
        return orNone(() -> {
            Trips t = trips(walker, day, minute, from, to);
            long with = t.least() / 1000;
            t.waits = false;
            return (int) (t.least() / 1000 - with);
        });
    }

    public long guessed(int walker, int day, int minute, int from, int to, int ten, int t, int what) {
        ask(is(ten, 0, 10) && is(t, 1, 12) && is(what, 0, 1));
        Trips trips = trips(walker, day, minute, from, to);
        trips.by = Math.min(119, minute + t);
        trips.least();
        BigInteger above = trips.likely(ten, new BigInteger[120][100], minute, from);
        BigInteger below = BigInteger.TEN.pow(trips.by - minute);
        return (what == 0 ? above : below).divide(above.gcd(below)).longValueExact();
    }

    // ---- the crowd

    private static final class Group {
        final Trips t;
        final int each;
        final int[][] at;
        int rounds;

        Group(Trips t, int by, int n, int each) {
            t.by = by;
            this.t = t;
            this.each = each;
            at = new int[n][];
            for (int i = 0; i < n; i++) {
                choose(i);
            }
            boolean changed = true;
            while (changed) {
                rounds++;
                changed = false;
                for (int i = 0; i < n; i++) {
                    stand(i);
                    if (t.least() / 1000 < cost(i)) {
                        choose(i);
                        changed = true;
                    }
                }
            }
        }

        /** What all others than one cost where they are. */
        void stand(int i) {
            for (int m = 0; m < 120; m++) {
                for (int s = 0; s < 100; s++) {
                    t.others[m][s] = 0;
                    for (int j = 0; j < at.length; j++) {
                        t.others[m][s] += j != i && at[j] != null && at[j][m] == s ? each : 0;
                    }
                }
            }
        }

        void choose(int i) {
            stand(i);
            t.least();
            List<Integer> way = t.way();
            int[] where = new int[120];
            Arrays.fill(where, NONE);
            int m = t.minute;
            int s = t.from;
            for (int piece : way) {
                for (int k = 0; k < t.takes(piece); k++) {
                    where[m++] = s;
                }
                s = piece == 4 ? s : t.town.next(s, piece);
            }
            at[i] = where;
        }

        int sun(int i) {
            int sun = 0;
            for (int m = 0; m < 120; m++) {
                sun += at[i][m] != NONE && t.sun(m, at[i][m]) ? 1 : 0;
            }
            return sun;
        }

        int cost(int i) {
            int cost = sun(i);
            for (int m = 0; m < 120; m++) {
                for (int j = 0; j < at.length; j++) {
                    cost += j != i && at[i][m] != NONE && at[j][m] == at[i][m] ? each : 0;
                }
            }
            return cost;
        }
    }

    private Group group(int walker, int day, int minute, int from, int to, int by, int n, int each) {
        ask(isMinute(by) && is(n, 1, 8) && is(each, 0, 9));
        return new Group(trips(walker, day, minute, from, to), by, n, each);
    }

    public int crowd(int walker, int day, int minute, int from, int to, int by, int n, int each, int what) {
        ask(is(what, 0, 3));
        Group g = group(walker, day, minute, from, to, by, n, each);
        int costs = 0;
        int suns = 0;
        int greatest = 0;
        for (int i = 0; i < n; i++) {
            costs += g.cost(i);
            suns += g.sun(i);
            greatest = Math.max(greatest, g.cost(i));
        }
        return new int[] {costs, suns, g.rounds, greatest}[what];
    }

    public int price(int walker, int day, int minute, int from, int to, int by, int n, int each) {
        int all = crowd(walker, day, minute, from, to, by, n, each, 0);
        Trips alone = trips(walker, day, minute, from, to);
        alone.by = by;
        return all - n * (int) (alone.least() / 1000);
    }

    // ---- what one thing more does

    private int sunOf(Place town, int walker, int day, int minute, int from, int to) {
        return (int) (new Trips(town, walker, day, minute, from, to).least() / 1000);
    }

    public int plant(int walker, int day, int minute, int from, int to, int height, int what) {
        ask(is(height, 1, 99) && is(what, 0, 1));
        int asIs = sunOf(place, walker, day, minute, from, to);
        int best = asIs;
        int where = NONE;
        for (int s = 0; s < 100; s++) {
            if (place.what[s].equals("nothing")) {
                Place p = place.copy();
                p.what[s] = "tree";
                p.height[s] = height;
                int sun = sunOf(p, walker, day, minute, from, to);
                where = sun < best ? s : where;
                best = Math.min(best, sun);
            }
        }
        return what == 0 ? where : asIs - best;
    }

    public int cover(int walker, int day, int minute, int from, int to, int what) {
        ask(is(what, 0, 1));
        int asIs = sunOf(place, walker, day, minute, from, to);
        int best = asIs;
        int where = NONE;
        for (int s = 0; s < 100; s++) {
            if (!place.house(s) && !place.roof(s)) {
                Place p = place.copy();
                p.awningAt.add(s);
                p.awningWhen.add((d, m) -> 1);
                int sun = sunOf(p, walker, day, minute, from, to);
                where = sun < best ? s : where;
                best = Math.min(best, sun);
            }
        }
        return what == 0 ? where : asIs - best;
    }

    public int keeps(int walker, int day, int minute, int from, int to, int square) {
        ask(isSquare(square) && place.house(square));
        int asIs = sunOf(place, walker, day, minute, from, to);
        return sunOf(pulled(square), walker, day, minute, from, to) - asIs;
    }

    public int spot(int square) {
        if (!isSquare(square) || !place.what[square].equals("nothing") || place.spots.contains(square)
                || place.spots.size() == 8) {
            return NONE;
        }
        place.spots.add(square);
        return place.spots.size() - 1;
    }

    public int spots(int walker, int day, int minute, int from, int to, int height, int many, int what) {
        ask(is(height, 1, 99) && is(many, 1, 8) && is(what, 0, 1));
        int best = sunOf(place, walker, day, minute, from, to);
        int chosen = 0;
        for (int set = 1; set < 1 << place.spots.size(); set++) {
            if (Integer.bitCount(set) <= many) {
                Place p = place.copy();
                for (int i = 0; i < place.spots.size(); i++) {
                    if ((set >> i & 1) == 1) {
                        p.what[place.spots.get(i)] = "tree";
                        p.height[place.spots.get(i)] = height;
                    }
                }
                int sun = sunOf(p, walker, day, minute, from, to);
                if (sun < best || sun == best && Integer.bitCount(set) < Integer.bitCount(chosen)) {
                    best = sun;
                    chosen = set;
                }
            }
        }
        return what == 0 ? chosen : best;
    }

    // ---- hours, processions, ways that are told

    public int dark(int walker, int day, int from, int to, int what) {
        return orNone(() -> {
            ask(is(what, 0, 2));
            long[][] best = trips(walker, day, 0, from, to).best();
            int many = 0;
            int first = NONE;
            int soonest = NONE;
            for (int m = 119; m >= 0; m--) {
                if (best[m][from] < 1000) {
                    many++;
                    first = m;
                    soonest = soonest == NONE ? (int) best[m][from] : Math.min(soonest, (int) best[m][from]);
                }
            }
            return new int[] {many, first, soonest}[what];
        });
    }

    public int follow(int square) {
        List<Integer> row = place.procession;
        if (!isSquare(square) || place.house(square) || row.size() == 30) {
            return NONE;
        }
        if (!row.isEmpty()) {
            int last = row.get(row.size() - 1);
            if (Math.abs(last % 10 - square % 10) + Math.abs(last / 10 - square / 10) != 1) {
                return NONE;
            }
        }
        row.add(square);
        return row.size();
    }

    public int parade(int day, int minute, int pace) {
        List<Integer> row = place.procession;
        if (!isTime(day, minute) || !is(pace, 1, 3) || row.isEmpty() || minute + pace * (row.size() - 1) > 119) {
            return NONE;
        }
        int sun = 0;
        int m = minute;
        for (int i = 0; i + 1 < row.size(); i++) {
            for (int k = 0; k < pace; k++) {
                sun += place.inShade(day, m++, row.get(i)) ? 0 : 1;
            }
        }
        return sun;
    }

    public int start(int day, int from, int to, int pace) {
        int best = NONE;
        for (int m = from; isMinute(from) && isMinute(to) && m <= to; m++) {
            if (parade(day, m, pace) != NONE && (best == NONE || parade(day, m, pace) < parade(day, best, pace))) {
                best = m;
            }
        }
        return best;
    }

    public int tell(int piece) {
        if (!is(piece, 0, 4) || place.told.size() == 60) {
            return NONE;
        }
        place.told.add(piece);
        return place.told.size();
    }

    public boolean clear() {
        place.procession.clear();
        place.told.clear();
        return true;
    }

    public int judged(int walker, int day, int minute, int from, int what) {
        ask(is(what, 0, 6));
        Trips t = trips(walker, day, minute, from, from);
        int m = minute;
        int s = from;
        int sun = 0;
        int heat = 0;
        int greatest = 0;
        int why = 0;
        int i = 0;
        for (; i < place.told.size(); i++) {
            int piece = place.told.get(i);
            int x = s % 10 + (piece == 4 ? 0 : STEP_X[piece]);
            int y = s / 10 + (piece == 4 ? 0 : STEP_Y[piece]);
            int comes = m + t.takes(piece);
            why = !is(x, 0, 9) || !is(y, 0, 9) ? 1 : place.house(10 * y + x) ? 2 : comes > 119 ? 3
                    : piece < 4 && place.shut(day, comes, 10 * y + x) ? 4 : 0;
            if (why != 0) {
                break;
            }
            for (; m < comes; m++) {
                sun += t.sun(m, s) ? 1 : 0;
                heat = t.sun(m, s) ? heat + 1 : Math.max(0, heat - t.w[2]);
                greatest = Math.max(greatest, heat);
            }
            s = 10 * y + x;
            heat = piece < 4 && place.water.contains(s) ? 0 : heat;
        }
        int ice = Math.max(0, t.w[3] - t.w[4] * sun - t.w[5] * (m - minute - sun));
        return new int[] {why == 0 ? NONE : i, why, sun, greatest, ice, m, s}[what];
    }

    public int rests(int walker, int day, int minute, int from, int to, int what) {
        ask(is(what, 0, 3));
        Trips t = trips(walker, day, minute, from, to);
        t.least();
        int waits = 0;
        int row = 0;
        int most = 0;
        int where = NONE;
        int s = from;
        for (int piece : t.way()) {
            waits += piece == 4 ? 1 : 0;
            row = piece == 4 ? row + 1 : 0;
            where = row > most ? s : where;
            most = Math.max(most, row);
            s = piece == 4 ? s : place.next(s, piece);
        }
        return new int[] {waits, most, where, t.way().size() - waits - fewest(from, to)}[what];
    }

    private int fewest(int from, int to) {
        int[] far = new int[100];
        Arrays.fill(far, 1000);
        far[from] = 0;
        for (int round = 0; round < 100; round++) {
            for (int s = 0; s < 100; s++) {
                for (int piece = 0; piece < 4; piece++) {
                    int goal = place.next(s, piece);
                    if (goal != NONE && far[s] < 1000) {
                        far[goal] = Math.min(far[goal], far[s] + 1);
                    }
                }
            }
        }
        return far[to];
    }

    public int leave(int walker, int day, int first, int last, int from, int to, int what) {
        return orNone(() -> {
            ask(is(what, 0, 3) && isMinute(last));
            long[][] best = trips(walker, day, first, from, to).best();
            int low = NONE;
            int high = NONE;
            for (int m = first; m <= last; m++) {
                if (best[m][from] < NEVER) {
                    low = low == NONE || best[m][from] / 1000 < best[low][from] / 1000 ? m : low;
                    high = high == NONE || best[m][from] / 1000 > best[high][from] / 1000 ? m : high;
                }
            }
            ask(low != NONE);
            int asked = what < 2 ? low : high;
            return what % 2 == 0 ? asked : (int) (best[asked][from] / 1000);
        });
    }

    public int errand(int walker, int day, int minute, int from, int to, int stay, int what) {
        ask(is(stay, 0, 60) && is(what, 0, 1));
        Trips there = trips(walker, day, minute, from, to);
        long[][] come = there.come(to);
        long[][] back = trips(walker, day, minute, to, from).best();
        long least = NEVER;
        for (int m = minute; m + stay < 120; m++) {
            long sun = come[m][to];
            for (int i = 0; i < stay; i++) {
                sun += there.sun(m + i, to) ? 1 : 0;
            }
            if (come[m][to] < NEVER && back[m + stay][to] < NEVER) {
                least = Math.min(least, 1000 * sun + back[m + stay][to]);
            }
        }
        ask(least < NEVER);
        return (int) (what == 0 ? least / 1000 : least % 1000);
    }

    public int meet(int walker, int from, int other, int start, int day, int minute, int what) {
        ask(is(what, 0, 2));
        long[][] one = trips(walker, day, minute, from, from).come(NONE);
        long[][] two = trips(other, day, minute, start, start).come(NONE);
        long least = NEVER;
        int when = NONE;
        int where = NONE;
        for (int m = minute; m < 120; m++) {
            for (int s = 0; s < 100; s++) {
                if (one[m][s] + two[m][s] < least) {
                    least = one[m][s] + two[m][s];
                    when = m;
                    where = s;
                }
            }
        }
        ask(least < NEVER);
        return what == 0 ? (int) least : what == 1 ? when : where;
    }
}

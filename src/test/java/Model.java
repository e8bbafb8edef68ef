import java.util.ArrayList;
import java.util.Arrays;
import java.util.List;
import java.util.function.IntBinaryOperator;

/**
 * The town once more, in another way than the class has it: read by recursive descent, shade by its definition,
 * trips by going every way there is. It is slow, and so asked about short times only.
 */
final class Model {
    static final int[] DX = {0, 1, 0, -1};
    static final int[] DY = {-1, 0, 1, 0};
    static final List<String> DIRECTIONS = List.of("north", "northeast", "east", "southeast", "south", "southwest",
            "west", "northwest");
    static final int[] EAST = {0, 1, 1, 1, 0, -1, -1, -1};
    static final int[] SOUTH = {-1, -1, 0, 1, 1, 1, 0, -1};

    /** A line with an E. */
    record Timed(int square, IntBinaryOperator when) {
    }

    record Line(int day, int minute, int direction, int a, int b) {
    }

    record Walker(int pace, int bears, int mends, int ice, int hot, int cool) {
    }

    /** One way that is a trip. */
    record Trip(String way, int minute, int sun, int greatestHeat, int ice, int[] where) {
    }

    /** The first fault of a text. */
    static final class Fault extends RuntimeException {
        private static final long serialVersionUID = 1L;
        final int kind;
        final int place;

        Fault(int kind, int place) {
            this.kind = kind;
            this.place = place;
        }
    }

    final int[] kind = new int[100];
    final int[] height = new int[100];
    final boolean[] water = new boolean[100];
    final List<Timed> awnings = new ArrayList<>();
    final List<Timed> shuts = new ArrayList<>();
    final List<Line> lines = new ArrayList<>();
    final Walker[] walkers = new Walker[6];
    int waters;

    Model copy() {
        Model m = new Model();
        System.arraycopy(kind, 0, m.kind, 0, 100);
        System.arraycopy(height, 0, m.height, 0, 100);
        System.arraycopy(water, 0, m.water, 0, 100);
        m.awnings.addAll(awnings);
        m.shuts.addAll(shuts);
        m.lines.addAll(lines);
        System.arraycopy(walkers, 0, m.walkers, 0, 6);
        m.waters = waters;
        return m;
    }

    // ---- reading

    private String text;
    private int at;
    private int start;
    private String token;

    /** The model of a text; throws its fault. */
    static Model read(String text) {
        Model m = new Model();
        m.text = text;
        m.next();
        while (!m.token.equals("END")) {
            m.line();
        }
        return m;
    }

    private void next() {
        while (at < text.length() && (text.charAt(at) == ' ' || text.charAt(at) == '\n')) {
            at++;
        }
        start = at;
        if (at == text.length()) {
            token = "END";
            return;
        }
        char c = text.charAt(at);
        String rest = text.substring(at);
        String run = rest.replaceAll("(?s)^([a-z]+|[0-9]+).*$", "$1");
        if (Character.isLetter(c) && c >= 'a' && c <= 'z') {
            token = run.length() > 9 ? "BAD" : run;
            at += run.length();
        } else if (c >= '0' && c <= '9') {
            token = run.length() > 4 ? "BAD" : run;
            at += run.length();
        } else {
            token = "()<=+-*;".indexOf(c) >= 0 ? "" + c : "BAD";
            at++;
        }
    }

    private boolean isNumber() {
        return token.matches("[0-9]+");
    }

    private int number(int low, int high) {
        if (!isNumber()) {
            throw new Fault(1, start);
        }
        int n = Integer.parseInt(token);
        if (n < low || n > high) {
            throw new Fault(4, start);
        }
        return n;
    }

    private int numberThen(int low, int high) {
        int n = number(low, high);
        next();
        return n;
    }

    private void word(String due) {
        if (!token.equals(due)) {
            throw new Fault(1, start);
        }
        next();
    }

    private int site(boolean bare) {
        int x = numberThen(0, 9);
        int y = number(0, 9);
        if (bare && kind[10 * y + x] != 0) {
            throw new Fault(3, start);
        }
        next();
        return 10 * y + x;
    }

    private void line() {
        String head = token;
        int place = start;
        switch (head) {
            case "house", "tree", "arcade" -> {
                next();
                int s = site(true);
                int h = head.equals("arcade") ? 0 : numberThen(1, 99);
                kind[s] = head.equals("house") ? 1 : head.equals("tree") ? 2 : 3;
                height[s] = h;
            }
            case "awning", "shut" -> {
                if (awnings.size() + shuts.size() == 20) {
                    throw new Fault(5, place);
                }
                next();
                int s = site(false);
                word("when");
                Timed timed = new Timed(s, expression(0));
                (head.equals("shut") ? shuts : awnings).add(timed);
            }
            case "water" -> {
                if (waters == 10) {
                    throw new Fault(5, place);
                }
                next();
                water[site(false)] = true;
                waters++;
            }
            case "sun" -> sun(place);
            case "walker" -> walker();
            default -> throw new Fault(1, place);
        }
        word(";");
    }

    private void sun(int place) {
        if (lines.size() == 24) {
            throw new Fault(5, place);
        }
        next();
        int day = numberThen(0, 3);
        word("from");
        int minute = number(0, 119);
        for (Line line : lines) {
            if (line.day == day && line.minute >= minute) {
                throw new Fault(3, start);
            }
        }
        next();
        int direction = DIRECTIONS.indexOf(token);
        if (direction < 0) {
            throw new Fault(1, start);
        }
        next();
        int a = numberThen(1, 99);
        word("over");
        int b = numberThen(1, 99);
        lines.add(new Line(day, minute, direction, a, b));
    }

    private void walker() {
        next();
        int n = number(0, 5);
        if (walkers[n] != null) {
            throw new Fault(3, start);
        }
        next();
        word("pace");
        int pace = numberThen(1, 3);
        word("bears");
        int bears = numberThen(1, 99);
        word("mends");
        int mends = numberThen(1, 99);
        word("ice");
        int ice = numberThen(0, 9999);
        word("hot");
        int hot = numberThen(0, 99);
        word("cool");
        int cool = numberThen(0, 99);
        walkers[n] = new Walker(pace, bears, mends, ice, hot, cool);
    }

    private IntBinaryOperator expression(int depth) {
        IntBinaryOperator left = test(depth);
        while (token.equals("and") || token.equals("or")) {
            boolean and = token.equals("and");
            next();
            IntBinaryOperator l = left;
            IntBinaryOperator r = test(depth);
            left = (d, m) -> {
                boolean x = l.applyAsInt(d, m) != 0;
                boolean y = r.applyAsInt(d, m) != 0;
                return (and ? x && y : x || y) ? 1 : 0;
            };
        }
        return left;
    }

    private IntBinaryOperator test(int depth) {
        IntBinaryOperator l = sum(depth);
        if (token.equals("<")) {
            next();
            IntBinaryOperator r = sum(depth);
            return (d, m) -> l.applyAsInt(d, m) < r.applyAsInt(d, m) ? 1 : 0;
        }
        if (token.equals("=")) {
            next();
            IntBinaryOperator r = sum(depth);
            return (d, m) -> l.applyAsInt(d, m) == r.applyAsInt(d, m) ? 1 : 0;
        }
        return l;
    }

    private IntBinaryOperator sum(int depth) {
        IntBinaryOperator left = product(depth);
        while (token.equals("+") || token.equals("-")) {
            int sign = token.equals("+") ? 1 : -1;
            next();
            IntBinaryOperator l = left;
            IntBinaryOperator r = product(depth);
            left = (d, m) -> l.applyAsInt(d, m) + sign * r.applyAsInt(d, m);
        }
        return left;
    }

    private IntBinaryOperator product(int depth) {
        IntBinaryOperator left = part(depth);
        while (token.equals("*")) {
            next();
            IntBinaryOperator l = left;
            IntBinaryOperator r = part(depth);
            left = (d, m) -> l.applyAsInt(d, m) * r.applyAsInt(d, m);
        }
        return left;
    }

    private IntBinaryOperator part(int depth) {
        boolean can = isNumber() || List.of("minute", "day", "not", "(").contains(token);
        if (!can || depth == 5) {
            throw new Fault(can ? 5 : 1, start);
        }
        String head = token;
        next();
        switch (head) {
            case "minute":
                return (d, m) -> m;
            case "day":
                return (d, m) -> d;
            case "not":
                IntBinaryOperator inner = part(depth + 1);
                return (d, m) -> inner.applyAsInt(d, m) == 0 ? 1 : 0;
            case "(":
                IntBinaryOperator whole = expression(depth + 1);
                word(")");
                return whole;
            default:
                int n = Integer.parseInt(head);
                return (d, m) -> n;
        }
    }

    // ---- shade

    boolean shady(int day, int minute, int square) {
        Line last = null;
        for (Line line : lines) {
            if (line.day == day && line.minute <= minute) {
                last = line;
            }
        }
        if (last == null || kind[square] == 2 || kind[square] == 3) {
            return true;
        }
        for (Timed awning : awnings) {
            if (awning.square == square && awning.when.applyAsInt(day, minute) != 0) {
                return true;
            }
        }
        int x = square % 10;
        int y = square / 10;
        for (int k = 1; k < 10; k++) {
            x += EAST[last.direction];
            y += SOUTH[last.direction];
            if (x < 0 || x > 9 || y < 0 || y > 9) {
                return false;
            }
            int other = 10 * y + x;
            if ((kind[other] == 1 || kind[other] == 2) && height[other] * last.b > k * last.a) {
                return true;
            }
        }
        return false;
    }

    boolean isShut(int day, int minute, int square) {
        for (Timed shut : shuts) {
            if (shut.square == square && shut.when.applyAsInt(day, minute) != 0) {
                return true;
            }
        }
        return false;
    }

    /** The square of a step, -1 beyond the town. */
    static int step(int square, int piece) {
        int x = square % 10 + DX[piece];
        int y = square / 10 + DY[piece];
        return x < 0 || x > 9 || y < 0 || y > 9 ? -1 : 10 * y + x;
    }

    // ---- every way

    private boolean[][] shadeOf;
    private boolean[][] shutOf;
    private int shownDay = -1;
    private int shownFrom = 120;

    /** Keeps the shade of a day from a minute on, as it is asked for very often. */
    void show(int day, int minute) {
        if (shownDay == day && shownFrom <= minute) {
            return;
        }
        shownDay = day;
        shownFrom = minute;
        shadeOf = new boolean[120][100];
        shutOf = new boolean[120][100];
        for (int m = minute; m < 120; m++) {
            for (int s = 0; s < 100; s++) {
                shadeOf[m][s] = shady(day, m, s);
                shutOf[m][s] = isShut(day, m, s);
            }
        }
    }

    boolean shownShade(int minute, int square) {
        return shadeOf[minute][square];
    }

    boolean shownShut(int minute, int square) {
        return shutOf[minute][square];
    }

    /** All trips; with a target below 0 all walks, each as a trip that ends where it is. */
    List<Trip> trips(Walker w, int day, int minute, int from, int to) {
        show(day, minute);
        List<Trip> found = new ArrayList<>();
        int[] where = new int[120];
        Arrays.fill(where, -1);
        go(found, w, "", minute, from, to, new int[] {0, 0, 0, w.ice}, where);
        return found;
    }

    /** So far: sun, heat, greatest heat, ice (below 0 too). */
    private void go(List<Trip> found, Walker w, String way, int minute, int at, int to, int[] so, int[] where) {
        if (at == to || to < 0) {
            found.add(new Trip(way, minute, so[0], so[2], Math.max(0, so[3]), where.clone()));
            if (at == to) {
                return;
            }
        }
        for (int piece = 0; piece <= 4; piece++) {
            int goal = piece == 4 ? at : step(at, piece);
            int comes = minute + (piece == 4 ? 1 : w.pace);
            if (goal < 0 || kind[goal] == 1 || comes > 119 || piece < 4 && shutOf[comes][goal]) {
                continue;
            }
            int[] now = so.clone();
            for (int m = minute; m < comes; m++) {
                spend(w, now, shadeOf[m][at]);
                where[m] = at;
            }
            if (piece < 4 && water[goal]) {
                now[1] = 0;
            }
            go(found, w, way + piece, comes, goal, to, now, where);
            for (int m = minute; m < comes; m++) {
                where[m] = -1;
            }
        }
    }

    static void spend(Walker w, int[] so, boolean shade) {
        if (shade) {
            so[1] = Math.max(0, so[1] - w.mends);
            so[3] -= w.cool;
        } else {
            so[0]++;
            so[1]++;
            so[3] -= w.hot;
        }
        so[2] = Math.max(so[2], so[1]);
    }

    /** Of all trips the one with the least sun, then the soonest, then the first in order; null without. */
    static Trip best(List<Trip> trips) {
        Trip best = null;
        for (Trip t : trips) {
            if (best == null || t.sun < best.sun || t.sun == best.sun && (t.minute < best.minute
                    || t.minute == best.minute && t.way.compareTo(best.way) < 0)) {
                best = t;
            }
        }
        return best;
    }

    /** The least sun of a trip, -1 without. */
    int leastSun(Walker w, int day, int minute, int from, int to) {
        Trip best = best(trips(w, day, minute, from, to));
        return best == null ? -1 : best.sun;
    }

    /** The fewest steps, -1 if there is no way at all. */
    int fewest(int from, int to) {
        int[] far = new int[100];
        Arrays.fill(far, 1000);
        far[from] = 0;
        for (int round = 0; round < 100; round++) {
            for (int s = 0; s < 100; s++) {
                for (int piece = 0; piece < 4 && kind[s] != 1; piece++) {
                    int goal = step(s, piece);
                    if (goal >= 0 && kind[goal] != 1) {
                        far[goal] = Math.min(far[goal], far[s] + 1);
                    }
                }
            }
        }
        return far[to] == 1000 ? -1 : far[to];
    }
}

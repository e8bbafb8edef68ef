import java.util.Arrays;
import java.util.NoSuchElementException;

/**
 * Along the shady side: a town told in a language, the shade of its squares minute by minute,
 * and the ways through it. The promises are numbered in the document DOC.md.
 */
public final class ShadySide {
    public static final int NONE = -1;

    private static final int SIDE = 10;
    private static final int SQUARES = 100;
    private static final int MINUTES = 120;
    private static final int LAST = 119;
    private static final int DAYS = 4;

    private static final int NOTHING = 0;
    private static final int A_HOUSE = 1;
    private static final int A_TREE = 2;
    private static final int AN_ARCADE = 3;

    /** The piece of a way that is no step. */
    private static final int WAIT = 4;

    /** More than any trip costs, and small enough that costs may still be added to it. */
    private static final int FAR = 1 << 28;

    /** A label is a cost times this and the minute of coming: so one comparison orders both. */
    private static final int LABEL = 128;

    private static final int TAPE_LIMIT = 1000;
    private static final int SUN_LIMIT = 24;
    private static final int WALKER_LIMIT = 6;
    private static final int TIMED_LIMIT = 20;
    private static final int WATER_LIMIT = 10;
    private static final int SPOT_LIMIT = 8;
    private static final int CROWD_LIMIT = 8;
    private static final int MARK_LIMIT = 4;
    private static final int HEIGHT_LIMIT = 99;

    /** The eight directions from north by east; every second one is that of a step. */
    private static final int[] EAST = {0, 1, 1, 1, 0, -1, -1, -1};
    private static final int[] SOUTH = {-1, -1, 0, 1, 1, 1, 0, -1};

    private Town town = new Town();
    private Town spare = new Town();
    private final Town[] marks = new Town[MARK_LIMIT];
    private final Reader reader = new Reader(spare);
    private final Sky sky = new Sky(town);
    private final Walk walk = new Walk(sky);
    private final Garden garden = new Garden(walk);
    private final Crowd group = new Crowd(walk);

    public ShadySide() {
        sky.build(town);
    }

    // ---- the tape and the town

    public int feed(long a, long b, long c) {
        feedSigns(a);
        feedSigns(b);
        feedSigns(c);
        return reader.tape.size;
    }

    private void feedSigns(long word) {
        for (int shift = 56; shift >= 0; shift -= 8) {
            int sign = (int) (word >>> shift) & 255;
            if (sign == 10 || sign >= 32 && sign <= 126) {
                reader.tape.add(sign);
            }
        }
    }

    public int town() {
        int fault = reader.read(spare);
        reader.tape.empty();
        if (fault == 0) {
            Town told = spare;
            spare = town;
            town = told;
            sky.build(town);
        }
        return fault;
    }

    public int square(int square, int what) {
        if (!isSquare(square) || what < 0 || what > 1) {
            return NONE;
        }
        return what == 0 ? town.kinds[square] : town.heights[square];
    }

    public boolean pull(int square) {
        if (!isSquare(square) || town.kinds[square] != A_HOUSE) {
            return false;
        }
        town.put(square, NOTHING, 0);
        sky.build(town);
        return true;
    }

    public boolean mark(int mark, boolean back) {
        if (mark < 0 || mark >= MARK_LIMIT) {
            return false;
        }
        Town held = marks[mark];
        if (back) {
            if (held == null) {
                return false;
            }
            town.copy(held);
            sky.build(town);
            return true;
        }
        if (held == null) {
            held = new Town();
            marks[mark] = held;
        }
        held.copy(town);
        return true;
    }

    public int count(int what) {
        switch (what) {
            case 0:
                return town.howMany(A_HOUSE);
            case 1:
                return town.howMany(A_TREE);
            case 2:
                return town.howMany(AN_ARCADE);
            case 3:
                return town.awningLines;
            case 4:
                return town.shutLines;
            case 5:
                return town.sunLines;
            case 6:
                return town.howManyWalkers();
            case 7:
                return town.places.size;
            case 8:
                return town.procession.size;
            case 9:
                return town.told.size;
            case 10:
                return reader.tape.size;
            case 11:
                return town.waterLines;
            default:
                return NONE;
        }
    }

    // ---- shade

    public int shade(int day, int minute, int square) {
        if (!isTime(day, minute) || !isSquare(square)) {
            return NONE;
        }
        return sky.shades.has(row(day, minute), square) ? 1 : 0;
    }

    public int when(int day, int minute, int square, boolean dark) {
        if (!isTime(day, minute) || !isSquare(square)) {
            return NONE;
        }
        for (int m = minute; m <= LAST; m++) {
            if (sky.shades.has(row(day, m), square) == dark) {
                return m;
            }
        }
        return NONE;
    }

    public int dim(int day, int minute) {
        return isTime(day, minute) ? sky.howDim(row(day, minute)) : NONE;
    }

    public int shutAt(int day, int minute, int square) {
        if (!isTime(day, minute) || !isSquare(square)) {
            return NONE;
        }
        return town.shuts.has(row(day, minute), square) ? 1 : 0;
    }

    public int broad(int day, int what) {
        if (!isDay(day) || what < 0 || what > 1) {
            return NONE;
        }
        int best = NONE;
        int most = NONE;
        for (int minute = 0; minute <= LAST; minute++) {
            int dimness = sky.lineAt(day, minute) == NONE ? NONE : sky.howDim(row(day, minute));
            if (dimness > most) {
                most = dimness;
                best = minute;
            }
        }
        return what == 0 ? best : most;
    }

    public int edges(int day, int minute, boolean came) {
        if (!isTime(day, minute) || minute < 1) {
            return NONE;
        }
        int now = row(day, minute);
        return came ? sky.howManyOnlyIn(now, now - 1) : sky.howManyOnlyIn(now - 1, now);
    }

    // ---- trips

    public int least(int walker, int day, int minute, int from, int to, int what) throws NoSuchElementException {
        if (what < 0 || what > 2 || !ready(walker, day, minute, from, to) || !walk.seekLeast(LAST)) {
            throw new NoSuchElementException();
        }
        if (what == 0) {
            return walk.cost;
        }
        if (what == 1) {
            return walk.arrival;
        }
        takeWay();
        return walk.way.size;
    }

    public int piece(int walker, int day, int minute, int from, int to, int i) {
        if (i < 0 || !ready(walker, day, minute, from, to) || !walk.seekLeast(LAST)) {
            return NONE;
        }
        takeWay();
        return walk.way.at(i);
    }

    /** Goes the way of the least that the walk has just found. */
    private void takeWay() {
        walk.labelBack(walk.first, walk.arrival, true);
        walk.traceWay();
    }

    public int soon(int walker, int day, int minute, int from, int to, int sun) {
        if (sun < 0 || !ready(walker, day, minute, from, to)) {
            return NONE;
        }
        walk.seekFirst(Math.min(sun, FAR - 1));
        return walk.arrival;
    }

    public int both(int walker, int day, int minute, int from, int to, int i, int what) {
        if (i < 0 || what < 0 || what > 1 || !ready(walker, day, minute, from, to) || !walk.seekLeast(LAST)) {
            return NONE;
        }
        int found = walk.arrivalNumber(i);
        return found == NONE || what == 0 ? found : walk.reached(found, to);
    }

    public int bears(int walker, int day, int minute, int from, int to) {
        if (!ready(walker, day, minute, from, to)) {
            return NONE;
        }
        walk.seekBearable();
        return walk.arrival;
    }

    public int hours(int walker, int day, int from, int to) {
        if (!ready(walker, day, 0, from, to)) {
            return NONE;
        }
        walk.allowHeat();
        int hours = 0;
        for (int minute = 0; minute <= LAST; minute++) {
            if (walk.labelled(minute, from) >= 0) {
                hours++;
            }
        }
        return hours;
    }

    public int ice(int walker, int day, int minute, int from, int to) {
        if (!ready(walker, day, minute, from, to)) {
            return NONE;
        }
        walk.hot = walk.walker.hot;
        walk.cool = walk.walker.cool;
        return walk.seekLeast(LAST) ? Math.max(0, walk.walker.ice - walk.cost) : NONE;
    }

    public int pays(int walker, int day, int minute, int from, int to) {
        if (!ready(walker, day, minute, from, to) || !walk.seekLeast(LAST)) {
            return NONE;
        }
        int with = walk.cost;
        walk.waits = false;
        return walk.seekLeast(LAST) ? walk.cost - with : NONE;
    }

    /**
     * What one sees of a cloud changes nothing: in the minute that begins one is on the square where one is,
     * whatever one chooses then. So the way with the least sun is also the one with the least likely sun.
     */
    public long guessed(int walker, int day, int minute, int from, int to, int ten, int t, int what)
            throws NoSuchElementException {
        if (ten < 0 || ten > 10 || t < 1 || t > 12 || what < 0 || what > 1
                || !ready(walker, day, minute, from, to) || !walk.seekLeast(Math.min(LAST, minute + t))) {
            throw new NoSuchElementException();
        }
        int above = walk.cost * (10 - ten);
        int common = 1;
        for (int divisor = 2; divisor <= 10; divisor++) {
            if (10 % divisor == 0 && above % divisor == 0) {
                common = divisor;
            }
        }
        return what == 0 ? above / common : 10 / common;
    }

    public int dark(int walker, int day, int from, int to, int what) {
        if (what < 0 || what > 2 || !ready(walker, day, 0, from, to)) {
            return NONE;
        }
        walk.labelBack(0, LAST, false);
        int many = 0;
        int first = NONE;
        int soonest = NONE;
        for (int minute = 0; minute <= LAST; minute++) {
            int label = walk.labelled(minute, from);
            if (label < LABEL) {
                many++;
                first = first == NONE ? minute : first;
                soonest = soonest == NONE ? label : Math.min(soonest, label);
            }
        }
        return what == 0 ? many : what == 1 ? first : soonest;
    }

    public int rests(int walker, int day, int minute, int from, int to, int what) throws NoSuchElementException {
        if (what < 0 || what > 3 || !ready(walker, day, minute, from, to) || !walk.seekLeast(LAST)) {
            throw new NoSuchElementException();
        }
        takeWay();
        int waited = walk.waitsOnWay();
        if (what == 0) {
            return waited;
        }
        if (what == 3) {
            return walk.way.size - waited - sky.fewestSteps(from, to);
        }
        int longest = walk.longestRest();
        return what == 1 ? longest : walk.restPlace(longest);
    }

    public int leave(int walker, int day, int first, int last, int from, int to, int what) {
        if (what < 0 || what > 3 || !isMinute(last) || first > last || !ready(walker, day, first, from, to)) {
            return NONE;
        }
        walk.labelBack(first, LAST, false);
        int best = NONE;
        int worst = NONE;
        int lowest = FAR;
        int highest = NONE;
        for (int minute = first; minute <= last; minute++) {
            int label = walk.labelled(minute, from);
            int sun = label / LABEL;
            if (label < FAR && sun < lowest) {
                lowest = sun;
                best = minute;
            }
            if (label < FAR && sun > highest) {
                highest = sun;
                worst = minute;
            }
        }
        if (best == NONE) {
            return NONE;
        }
        return what == 0 ? best : what == 1 ? lowest : what == 2 ? worst : highest;
    }

    public int errand(int walker, int day, int minute, int from, int to, int stay, int what)
            throws NoSuchElementException {
        if (stay < 0 || stay > 60 || what < 0 || what > 1 || !ready(walker, day, minute, from, to)) {
            throw new NoSuchElementException();
        }
        walk.seekAll();
        walk.aim(minute, to, from);
        walk.labelBack(minute, LAST, false);
        int best = FAR;
        for (int there = minute; there + stay <= LAST; there++) {
            int sun = walk.reached(there, to);
            int label = walk.labelled(there + stay, to);
            if (sun < FAR && label < FAR) {
                best = Math.min(best, (sun + walk.spent(there, stay, to)) * LABEL + label);
            }
        }
        if (best >= FAR) {
            throw new NoSuchElementException();
        }
        return what == 0 ? best / LABEL : best % LABEL;
    }

    public int meet(int walker, int from, int other, int start, int day, int minute, int what)
            throws NoSuchElementException {
        if (what < 0 || what > 2 || !ready(walker, day, minute, from, start)) {
            throw new NoSuchElementException();
        }
        walk.aim(minute, from, NONE);
        walk.seekAll();
        walk.keepReached();
        if (!ready(other, day, minute, start, from)) {
            throw new NoSuchElementException();
        }
        walk.aim(minute, start, NONE);
        walk.seekAll();
        int least = FAR;
        int where = NONE;
        for (int at = minute * SQUARES; at < MINUTES * SQUARES; at++) {
            int sun = walk.reached(at / SQUARES, at % SQUARES) + walk.labelled(at / SQUARES, at % SQUARES);
            if (sun < least) {
                least = sun;
                where = at;
            }
        }
        if (where == NONE) {
            throw new NoSuchElementException();
        }
        return what == 0 ? least : what == 1 ? where / SQUARES : where % SQUARES;
    }

    // ---- the crowd

    public int crowd(int walker, int day, int minute, int from, int to, int by, int n, int each, int what)
            throws NoSuchElementException {
        if (what < 0 || what > 3 || !isGroup(by, n, each) || !ready(walker, day, minute, from, to)
                || !group.gather(by, n, each)) {
            throw new NoSuchElementException();
        }
        return what == 0 ? group.costs : what == 1 ? group.suns : what == 2 ? group.rounds : group.greatest;
    }

    public int price(int walker, int day, int minute, int from, int to, int by, int n, int each)
            throws NoSuchElementException {
        if (!isGroup(by, n, each) || !ready(walker, day, minute, from, to) || !group.gather(by, n, each)
                || !walk.seekLeast(by)) {
            throw new NoSuchElementException();
        }
        return group.costs - n * walk.cost;
    }

    private boolean isGroup(int by, int n, int each) {
        return isMinute(by) && n >= 1 && n <= CROWD_LIMIT && each >= 0 && each <= 9;
    }

    // ---- what a tree, an awning, a house does

    public int plant(int walker, int day, int minute, int from, int to, int height, int what)
            throws NoSuchElementException {
        if (what < 0 || what > 1 || height < 1 || height > HEIGHT_LIMIT
                || !ready(walker, day, minute, from, to) || !walk.seekLeast(LAST)) {
            throw new NoSuchElementException();
        }
        garden.tryTrees(height);
        return what == 0 ? garden.chosen : garden.gain;
    }

    public int spot(int square) {
        if (!isSquare(square) || town.kinds[square] != NOTHING || town.places.holds(square)
                || !town.places.add(square)) {
            return NONE;
        }
        return town.places.size - 1;
    }

    public int spots(int walker, int day, int minute, int from, int to, int height, int many, int what)
            throws NoSuchElementException {
        if (what < 0 || what > 1 || height < 1 || height > HEIGHT_LIMIT || many < 1 || many > SPOT_LIMIT
                || !ready(walker, day, minute, from, to) || !walk.seekLeast(LAST)) {
            throw new NoSuchElementException();
        }
        garden.trySets(height, many);
        return what == 0 ? garden.chosen : garden.best;
    }

    public int cover(int walker, int day, int minute, int from, int to, int what) throws NoSuchElementException {
        if (what < 0 || what > 1 || !ready(walker, day, minute, from, to) || !walk.seekLeast(LAST)) {
            throw new NoSuchElementException();
        }
        garden.tryAwnings();
        return what == 0 ? garden.chosen : garden.gain;
    }

    public int keeps(int walker, int day, int minute, int from, int to, int square) throws NoSuchElementException {
        if (!isSquare(square) || town.kinds[square] != A_HOUSE
                || !ready(walker, day, minute, from, to) || !walk.seekLeast(LAST)) {
            throw new NoSuchElementException();
        }
        int with = walk.cost;
        int height = town.heights[square];
        town.put(square, NOTHING, 0);
        sky.build(town);
        boolean found = ready(walker, day, minute, from, to) && walk.seekLeast(LAST);
        town.put(square, A_HOUSE, height);
        sky.build(town);
        if (!found) {
            throw new NoSuchElementException();
        }
        return walk.cost - with;
    }

    // ---- the procession

    public int follow(int square) {
        Chain procession = town.procession;
        if (!town.isOpen(square)) {
            return NONE;
        }
        if (procession.size > 0 && !sky.isNext(procession.at(procession.size - 1), square)) {
            return NONE;
        }
        return procession.add(square) ? procession.size : NONE;
    }

    public int parade(int day, int minute, int pace) {
        if (!isTime(day, minute) || pace < 1 || pace > 3) {
            return NONE;
        }
        return paradeSun(day, minute, pace);
    }

    public int start(int day, int from, int to, int pace) {
        if (!isTime(day, from) || !isMinute(to) || pace < 1 || pace > 3) {
            return NONE;
        }
        int best = NONE;
        int lowest = FAR;
        for (int minute = from; minute <= to; minute++) {
            int sun = paradeSun(day, minute, pace);
            if (sun != NONE && sun < lowest) {
                lowest = sun;
                best = minute;
            }
        }
        return best;
    }

    /** The sun of the procession, NONE if there is none or it would come behind the last minute. */
    private int paradeSun(int day, int minute, int pace) {
        Chain procession = town.procession;
        if (procession.size == 0 || minute + (procession.size - 1) * pace > LAST) {
            return NONE;
        }
        int sun = 0;
        for (int i = 0; i < (procession.size - 1) * pace; i++) {
            if (!sky.shades.has(row(day, minute + i), procession.at(i / Math.max(1, pace)))) {
                sun++;
            }
        }
        return sun;
    }

    // ---- a way that is told

    public int tell(int piece) {
        if (piece < 0 || piece > WAIT || !town.told.add(piece)) {
            return NONE;
        }
        return town.told.size;
    }

    public boolean clear() {
        town.procession.empty();
        town.told.empty();
        return true;
    }

    public int judged(int walker, int day, int minute, int from, int what) throws NoSuchElementException {
        if (what < 0 || what > 6 || !ready(walker, day, minute, from, from)) {
            throw new NoSuchElementException();
        }
        int why = walk.goAlong(town.told);
        int sun = walk.sunOnPath();
        switch (what) {
            case 0:
                return why == 0 ? NONE : walk.way.size;
            case 1:
                return why;
            case 2:
                return sun;
            case 3:
                return walk.greatestHeat();
            case 4:
                return Math.max(0, walk.walker.ice - walk.walker.hot * sun
                        - walk.walker.cool * (walk.arrival - minute - sun));
            case 5:
                return walk.arrival;
            default:
                return walk.place;
        }
    }

    // ---- what is asked about

    /** Whether such a trip can be asked about; if so the walk is set to it. */
    private boolean ready(int walker, int day, int minute, int from, int to) {
        if (walker < 0 || walker >= WALKER_LIMIT || !isTime(day, minute)
                || !town.isOpen(from) || !town.isOpen(to)) {
            return false;
        }
        Walker who = town.walkers[walker];
        if (who == null) {
            return false;
        }
        walk.set(who, day);
        walk.aim(minute, from, to);
        return true;
    }

    private static boolean isSquare(int square) {
        return square >= 0 && square < SQUARES;
    }

    private static boolean isMinute(int minute) {
        return minute >= 0 && minute < MINUTES;
    }

    private static boolean isDay(int day) {
        return day >= 0 && day < DAYS;
    }

    private static boolean isTime(int day, int minute) {
        return isDay(day) && isMinute(minute);
    }

    private static int row(int day, int minute) {
        return day * MINUTES + minute;
    }

    /** The square so many steps away in one of the eight directions, NONE beyond the town. */
    private static int away(int square, int direction, int steps) {
        if (!isSquare(square) || direction < 0 || direction >= 8) {
            return NONE;
        }
        int x = square % SIDE + EAST[direction] * steps;
        int y = square / SIDE + SOUTH[direction] * steps;
        return x < 0 || x >= SIDE || y < 0 || y >= SIDE ? NONE : y * SIDE + x;
    }

    /** A row of numbers with a limit. */
    private static final class Chain {
        final int[] items;
        int size;

        Chain(int limit) {
            items = new int[Math.max(0, limit)];
        }

        /** Whether there was room for one more. */
        boolean add(int item) {
            if (size < 0 || size >= items.length) {
                return false;
            }
            items[size] = item;
            size++;
            return true;
        }

        int at(int i) {
            return i < 0 || i >= size || i >= items.length ? NONE : items[i];
        }

        int last() {
            return size < 1 || size > items.length ? NONE : items[size - 1];
        }

        void dropLast() {
            if (size > 0) {
                size--;
            }
        }

        boolean holds(int item) {
            for (int i = 0; i < size; i++) {
                if (at(i) == item) {
                    return true;
                }
            }
            return false;
        }

        void empty() {
            size = 0;
        }

        void copy(Chain other) {
            size = 0;
            for (int i = 0; i < other.size; i++) {
                add(other.at(i));
            }
        }
    }

    /** Sets of squares, one in each row: two words a row, so that whole rows are joined at once. */
    private static final class Rows {
        final long[] words;

        Rows(int rows) {
            words = new long[2 * Math.max(0, rows)];
        }

        boolean holds(int row) {
            return row >= 0 && 2 * row + 1 < words.length;
        }

        boolean has(int row, int square) {
            int at = 2 * row + (square >> 6);
            return square >= 0 && square < SQUARES && at >= 0 && at < words.length
                    && (words[at] >>> (square & 63) & 1L) != 0;
        }

        /** One half of a row: the squares from 0 or from 64 on. */
        long word(int row, int half) {
            return holds(row) && half >= 0 && half < 2 ? words[2 * row + half] : 0L;
        }

        void put(int row, int square) {
            int at = 2 * row + (square >> 6);
            if (square >= 0 && square < SQUARES && at >= 0 && at < words.length) {
                words[at] |= 1L << (square & 63);
            }
        }

        /** The lowest of a half's squares, counted from the half's first one. */
        static int lowest(long squares) {
            return Long.bitCount((squares & -squares) - 1);
        }

        void join(int row, Rows other, int otherRow) {
            joinHalf(row, 0, other.word(otherRow, 0));
            joinHalf(row, 1, other.word(otherRow, 1));
        }

        void joinHalf(int row, int half, long squares) {
            if (holds(row) && half >= 0 && half < 2) {
                words[2 * row + half] |= squares;
            }
        }

        void empty() {
            Arrays.fill(words, 0L);
        }

        void emptyRow(int row) {
            if (holds(row)) {
                words[2 * row] = 0L;
                words[2 * row + 1] = 0L;
            }
        }

        void fillRow(int row) {
            if (holds(row)) {
                words[2 * row] = -1L;
                words[2 * row + 1] = (1L << SQUARES - 64) - 1;
            }
        }

        /** How many squares a row has of those in the first row of another one. */
        int howMany(int row, Rows other) {
            if (!holds(row) || !other.holds(0)) {
                return 0;
            }
            return Long.bitCount(words[2 * row] & other.words[0])
                    + Long.bitCount(words[2 * row + 1] & other.words[1]);
        }

        /** Copies as many rows as this has, from a row of the other one on. */
        void copy(Rows other, int otherRow) {
            int many = Math.min(words.length, other.words.length - 2 * otherRow);
            if (otherRow >= 0 && many > 0) {
                System.arraycopy(other.words, 2 * otherRow, words, 0, many);
            }
        }
    }

    /** One sun line: where the sun of a day stands from a minute on. */
    private static final class Sun {
        final int day;
        final int minute;
        final int direction;
        final int over;
        final int under;

        Sun(int day, int minute, int direction, int over, int under) {
            this.day = day;
            this.minute = minute;
            this.direction = direction;
            this.over = over;
            this.under = under;
        }

        /** Puts the squares that something on a square keeps in the shade into a row. */
        void cast(Rows rows, int row, int square, int height) {
            int behind = direction + 4 & 7;
            for (int steps = 1; steps < SIDE && height * under > steps * over; steps++) {
                rows.put(row, away(square, behind, steps));
            }
        }
    }

    private static final class Walker {
        int pace = 1;
        int bears;
        int mends;
        int ice;
        int hot;
        int cool;
    }

    /** All that a mark holds: what is told of the town, the spots, the procession and the told way. */
    private static final class Town {
        final int[] kinds = new int[SQUARES];
        final int[] heights = new int[SQUARES];
        final Rows awnings = new Rows(DAYS * MINUTES);
        final Rows shuts = new Rows(DAYS * MINUTES);
        final Rows water = new Rows(1);
        final Sun[] suns = new Sun[SUN_LIMIT];
        final Walker[] walkers = new Walker[WALKER_LIMIT];
        final Chain places = new Chain(SPOT_LIMIT);
        final Chain procession = new Chain(30);
        final Chain told = new Chain(60);
        int awningLines;
        int shutLines;
        int waterLines;
        int sunLines;

        void empty() {
            Arrays.fill(kinds, NOTHING);
            Arrays.fill(heights, 0);
            awnings.empty();
            shuts.empty();
            water.empty();
            for (int i = 0; i < walkers.length; i++) {
                walkers[i] = null;
            }
            places.empty();
            procession.empty();
            told.empty();
            awningLines = 0;
            shutLines = 0;
            waterLines = 0;
            sunLines = 0;
        }

        void copy(Town other) {
            System.arraycopy(other.kinds, 0, kinds, 0, SQUARES);
            System.arraycopy(other.heights, 0, heights, 0, SQUARES);
            awnings.copy(other.awnings, 0);
            shuts.copy(other.shuts, 0);
            water.copy(other.water, 0);
            for (int i = 0; i < SUN_LIMIT; i++) {
                suns[i] = other.suns[i];
            }
            for (int i = 0; i < WALKER_LIMIT; i++) {
                walkers[i] = other.walkers[i];
            }
            places.copy(other.places);
            procession.copy(other.procession);
            told.copy(other.told);
            awningLines = other.awningLines;
            shutLines = other.shutLines;
            waterLines = other.waterLines;
            sunLines = other.sunLines;
        }

        void put(int square, int kind, int height) {
            if (isSquare(square)) {
                kinds[square] = kind;
                heights[square] = height;
            }
        }

        /** Whether it is a square that can be stood on. */
        boolean isOpen(int square) {
            return isSquare(square) && kinds[square] != A_HOUSE;
        }

        boolean isBare(int square) {
            return isSquare(square) && kinds[square] == NOTHING;
        }

        int howMany(int kind) {
            int many = 0;
            for (int square = 0; square < SQUARES; square++) {
                if (kinds[square] == kind) {
                    many++;
                }
            }
            return many;
        }

        int howManyWalkers() {
            int many = 0;
            for (int i = 0; i < walkers.length; i++) {
                if (walkers[i] != null) {
                    many++;
                }
            }
            return many;
        }

        Sun sun(int line) {
            return line < 0 || line >= sunLines || line >= suns.length ? null : suns[line];
        }

        void addSun(Sun sun) {
            if (sunLines >= 0 && sunLines < suns.length) {
                suns[sunLines] = sun;
                sunLines++;
            }
        }

        /** The minute of the last sun line of a day so far, NONE without. */
        int lastSunOf(int day) {
            int minute = NONE;
            for (int line = 0; line < sunLines; line++) {
                Sun sun = sun(line);
                if (sun != null && sun.day == day) {
                    minute = sun.minute;
                }
            }
            return minute;
        }
    }

    /** An E of the language: taken token by token, kept with each operation behind what it is done to. */
    private static final class Formula {
        /** How many of not and ( ) a PART may lie within, and one more. */
        static final int TOO_DEEP = 5;
        static final int COMPARES = 2;

        /** A number as it is, all else as -1 less its token. */
        final Chain code = new Chain(TAPE_LIMIT);
        final Chain pending = new Chain(TAPE_LIMIT);
        final int[] values = new int[64];
        int depth;
        boolean wantsPart;

        void begin() {
            code.empty();
            pending.empty();
            depth = 0;
            wantsPart = true;
        }

        /** Takes one more token: 0, or the kind of its fault. */
        int take(int token, int number) {
            if (wantsPart) {
                return takePart(token, number);
            }
            return token == Reader.CLOSE ? takeClose() : takeLink(token);
        }

        private int takePart(int token, int number) {
            boolean opens = token == Reader.NOT || token == Reader.OPEN;
            boolean stands = token == Reader.NUMBER || token == Reader.MINUTE || token == Reader.DAY;
            if (!opens && !stands) {
                return 1;
            }
            if (depth >= TOO_DEEP) {
                return 5;
            }
            if (opens) {
                pending.add(token);
                depth++;
            } else {
                code.add(token == Reader.NUMBER ? number : -1 - token);
                endPart();
            }
            return 0;
        }

        private int takeLink(int token) {
            int rank = rank(token);
            if (rank == 0) {
                return 1;
            }
            settle(rank == COMPARES ? COMPARES + 1 : rank);
            if (rank == COMPARES && rank(pending.last()) == COMPARES) {
                return 1;
            }
            pending.add(token);
            wantsPart = true;
            return 0;
        }

        private int takeClose() {
            settle(1);
            if (pending.last() != Reader.OPEN) {
                return 1;
            }
            pending.dropLast();
            depth--;
            endPart();
            return 0;
        }

        /** Behind a PART each not right ahead of it is done. */
        private void endPart() {
            wantsPart = false;
            for (int i = 0; i < TOO_DEEP && pending.last() == Reader.NOT; i++) {
                code.add(-1 - Reader.NOT);
                pending.dropLast();
                depth--;
            }
        }

        /** Whether the E may end here. */
        boolean ends() {
            if (wantsPart) {
                return false;
            }
            settle(1);
            return pending.size == 0;
        }

        /** What is pending and binds at least as closely as a rank is done now. */
        private void settle(int rank) {
            for (int i = 0; i < TAPE_LIMIT && rank(pending.last()) >= rank; i++) {
                code.add(-1 - pending.last());
                pending.dropLast();
            }
        }

        private static int rank(int token) {
            switch (token) {
                case Reader.AND:
                case Reader.OR:
                    return 1;
                case Reader.LESS:
                case Reader.EQUAL:
                    return COMPARES;
                case Reader.PLUS:
                case Reader.MINUS:
                    return 3;
                case Reader.TIMES:
                    return 4;
                default:
                    return 0;
            }
        }

        int value(int day, int minute) {
            int top = NONE;
            for (int i = 0; i < code.size; i++) {
                int item = code.at(i);
                int token = -1 - item;
                if (item >= 0 || token == Reader.MINUTE || token == Reader.DAY) {
                    top++;
                    setValue(top, item >= 0 ? item : token == Reader.DAY ? day : minute);
                } else if (token == Reader.NOT) {
                    setValue(top, valueAt(top) == 0 ? 1 : 0);
                } else {
                    top--;
                    setValue(top, link(token, valueAt(top), valueAt(top + 1)));
                }
            }
            return valueAt(top);
        }

        private int valueAt(int i) {
            return i < 0 || i >= values.length ? 0 : values[i];
        }

        private void setValue(int i, int value) {
            if (i >= 0 && i < values.length) {
                values[i] = value;
            }
        }

        private static int link(int token, int left, int right) {
            switch (token) {
                case Reader.AND:
                    return left != 0 && right != 0 ? 1 : 0;
                case Reader.OR:
                    return left != 0 || right != 0 ? 1 : 0;
                case Reader.LESS:
                    return left < right ? 1 : 0;
                case Reader.EQUAL:
                    return left == right ? 1 : 0;
                case Reader.PLUS:
                    return left + right;
                case Reader.MINUS:
                    return left - right;
                default:
                    return left * right;
            }
        }
    }

    /** The tape, and the reading of it as a town. */
    private static final class Reader {
        static final int HOUSE = 0;
        static final int TREE = 1;
        static final int ARCADE = 2;
        static final int AWNING = 3;
        static final int SHUT = 4;
        static final int WATER = 5;
        static final int SUN = 6;
        static final int WALKER = 7;
        static final int WHEN = 8;
        static final int FROM = 9;
        static final int OVER = 10;
        static final int PACE = 11;
        static final int BEARS = 12;
        static final int MENDS = 13;
        static final int ICE = 14;
        static final int HOT = 15;
        static final int COOL = 16;
        static final int AND = 17;
        static final int OR = 18;
        static final int NOT = 19;
        static final int MINUTE = 20;
        static final int DAY = 21;
        static final int NORTH = 22;
        static final int NORTHWEST = 29;

        /** The words in the order of their tokens. */
        static final String WORDS = "house tree arcade awning shut water sun walker when from over pace bears mends ice hot cool and or not minute day north northeast east southeast south southwest west northwest";
        static final int LONGEST_NUMBER = 4;

        static final String SIGNS = "()<=+-*;";
        static final int OPEN = 32;
        static final int CLOSE = 33;
        static final int LESS = 34;
        static final int EQUAL = 35;
        static final int PLUS = 36;
        static final int MINUS = 37;
        static final int TIMES = 38;
        static final int SEMICOLON = 39;

        static final int NUMBER = 50;
        static final int END = 51;
        static final int NO_TOKEN = 52;

        final Chain tape = new Chain(TAPE_LIMIT);
        /** The tokens of the tape and its end, each with its number (0 without) and its place. */
        final Chain tokens = new Chain(TAPE_LIMIT + 1);
        final Chain values = new Chain(TAPE_LIMIT + 1);
        final Chain places = new Chain(TAPE_LIMIT + 1);
        final Formula formula = new Formula();
        Town town;
        int ahead;
        int token;
        int value;
        int place;
        int number;
        int numberPlace;
        int site;
        int fault;

        Reader(Town town) {
            this.town = town;
        }

        /** Reads the tape into an empty town: 0, or the first fault. */
        int read(Town into) {
            town = into;
            town.empty();
            fault = 0;
            scan();
            ahead = 0;
            advance();
            for (int lines = 0; lines < TAPE_LIMIT && token != END; lines++) {
                if (!readLine()) {
                    return fault;
                }
            }
            return 0;
        }

        private boolean readLine() {
            switch (token) {
                case HOUSE:
                    return readBuilding(A_HOUSE);
                case TREE:
                    return readBuilding(A_TREE);
                case ARCADE:
                    return readBuilding(AN_ARCADE);
                case AWNING:
                    return readTimed(true);
                case SHUT:
                    return readTimed(false);
                case WATER:
                    return readWater();
                case SUN:
                    return readSun();
                case WALKER:
                    return readWalker();
                default:
                    return wrong(1, place);
            }
        }

        private boolean readBuilding(int kind) {
            advance();
            if (!readSite()) {
                return false;
            }
            int where = site;
            if (!town.isBare(where)) {
                return wrong(3, numberPlace);
            }
            if (kind != AN_ARCADE && !readNumber(1, HEIGHT_LIMIT)) {
                return false;
            }
            town.put(where, kind, kind == AN_ARCADE ? 0 : number);
            return expect(SEMICOLON);
        }

        private boolean readTimed(boolean awning) {
            if (town.awningLines + town.shutLines >= TIMED_LIMIT) {
                return wrong(5, place);
            }
            advance();
            if (!readSite() || !expect(WHEN)) {
                return false;
            }
            formula.begin();
            for (int i = 0; i <= TAPE_LIMIT && token != SEMICOLON; i++) {
                int kind = formula.take(token, value);
                if (kind != 0) {
                    return wrong(kind, place);
                }
                advance();
            }
            if (!formula.ends()) {
                return wrong(1, place);
            }
            if (awning) {
                town.awningLines++;
            } else {
                town.shutLines++;
            }
            fillTimes(awning ? town.awnings : town.shuts);
            return expect(SEMICOLON);
        }

        /** The E of a line is the same for ever: what it says of each minute is kept instead. */
        private void fillTimes(Rows rows) {
            for (int day = 0; day < DAYS; day++) {
                for (int minute = 0; minute < MINUTES; minute++) {
                    if (formula.value(day, minute) != 0) {
                        rows.put(row(day, minute), site);
                    }
                }
            }
        }

        private boolean readWater() {
            if (town.waterLines >= WATER_LIMIT) {
                return wrong(5, place);
            }
            advance();
            if (!readSite()) {
                return false;
            }
            town.waterLines++;
            town.water.put(0, site);
            return expect(SEMICOLON);
        }

        private boolean readSun() {
            if (town.sunLines >= SUN_LIMIT) {
                return wrong(5, place);
            }
            advance();
            if (!readNumber(0, DAYS - 1)) {
                return false;
            }
            int day = number;
            if (!readClause(FROM, 0, LAST)) {
                return false;
            }
            int minute = number;
            if (minute <= town.lastSunOf(day)) {
                return wrong(3, numberPlace);
            }
            int direction = token - NORTH;
            if (token < NORTH || token > NORTHWEST) {
                return wrong(1, place);
            }
            advance();
            if (!readNumber(1, HEIGHT_LIMIT)) {
                return false;
            }
            int over = number;
            if (!readClause(OVER, 1, HEIGHT_LIMIT)) {
                return false;
            }
            town.addSun(new Sun(day, minute, direction, over, number));
            return expect(SEMICOLON);
        }

        private boolean readWalker() {
            advance();
            if (!readNumber(0, WALKER_LIMIT - 1)) {
                return false;
            }
            int which = number;
            if (which < 0 || which >= town.walkers.length || town.walkers[which] != null) {
                return wrong(3, numberPlace);
            }
            Walker told = new Walker();
            boolean good = readClause(PACE, 1, 3);
            told.pace = number;
            good = good && readClause(BEARS, 1, 99);
            told.bears = number;
            good = good && readClause(MENDS, 1, 99);
            told.mends = number;
            good = good && readClause(ICE, 0, 9999);
            told.ice = number;
            good = good && readClause(HOT, 0, 99);
            told.hot = number;
            good = good && readClause(COOL, 0, 99);
            told.cool = number;
            town.walkers[which] = told;
            return good && expect(SEMICOLON);
        }

        /** A word and the number that belongs to it. */
        private boolean readClause(int word, int low, int high) {
            return expect(word) && readNumber(low, high);
        }

        private boolean readSite() {
            if (!readNumber(0, SIDE - 1)) {
                return false;
            }
            int x = number;
            if (!readNumber(0, SIDE - 1)) {
                return false;
            }
            site = number * SIDE + x;
            return true;
        }

        private boolean readNumber(int low, int high) {
            if (token != NUMBER) {
                return wrong(1, place);
            }
            if (value < low || value > high) {
                return wrong(4, place);
            }
            number = value;
            numberPlace = place;
            advance();
            return true;
        }

        private boolean expect(int due) {
            if (token != due) {
                return wrong(1, place);
            }
            advance();
            return true;
        }

        private boolean wrong(int kind, int where) {
            fault = kind + 16 * where;
            return false;
        }

        /** Goes on to the next token; behind the end it stays at the end. */
        private void advance() {
            token = ahead < tokens.size ? tokens.at(ahead) : END;
            value = values.at(ahead);
            place = ahead < places.size ? places.at(ahead) : tape.size;
            ahead++;
        }

        /** Finds the tokens of the whole tape. */
        private void scan() {
            tokens.empty();
            values.empty();
            places.empty();
            int at = 0;
            for (int i = 0; i <= TAPE_LIMIT && at < tape.size; i++) {
                int sign = tape.at(at);
                if (isBlank(sign)) {
                    at++;
                } else if (isLetter(sign)) {
                    at = scanWord(at);
                } else if (isDigit(sign)) {
                    at = scanNumber(at);
                } else {
                    int which = SIGNS.indexOf((char) sign);
                    addToken(which < 0 ? NO_TOKEN : OPEN + which, 0, at);
                    at++;
                }
            }
            addToken(END, 0, tape.size);
        }

        private void addToken(int kind, int number, int at) {
            tokens.add(kind);
            values.add(number);
            places.add(at);
        }

        private int scanWord(int at) {
            int end = at;
            for (int i = 0; i < TAPE_LIMIT && isLetter(tape.at(end)); i++) {
                end++;
            }
            addToken(wordOnTape(at, end - at), 0, at);
            return end;
        }

        /** Which word the letters from a place on are; all that are longer than a word are no word. */
        private int wordOnTape(int at, int length) {
            int word = 0;
            int same = 0;
            for (int i = 0; i <= WORDS.length(); i++) {
                int letter = i < WORDS.length() ? WORDS.charAt(i) : ' ';
                if (letter == ' ') {
                    if (same == length) {
                        return word;
                    }
                    word++;
                    same = 0;
                } else if (same != NONE) {
                    same = same < length && tape.at(at + same) == letter ? same + 1 : NONE;
                }
            }
            return NO_TOKEN;
        }

        private int scanNumber(int at) {
            int end = at;
            int sum = 0;
            for (int i = 0; i < TAPE_LIMIT && isDigit(tape.at(end)); i++) {
                sum = i < LONGEST_NUMBER ? 10 * sum + tape.at(end) - '0' : sum;
                end++;
            }
            addToken(end - at > LONGEST_NUMBER ? NO_TOKEN : NUMBER, sum, at);
            return end;
        }

        private static boolean isBlank(int sign) {
            return sign == 10 || sign == ' ';
        }

        private static boolean isLetter(int sign) {
            return sign >= 'a' && sign <= 'z';
        }

        private static boolean isDigit(int sign) {
            return sign >= '0' && sign <= '9';
        }
    }

    /** What follows from the town alone: where the sun stands, what is in shade, which squares are next. */
    private static final class Sky {
        final int[] lines = new int[DAYS * MINUTES];
        final Rows shades = new Rows(DAYS * MINUTES);
        final Rows casts = new Rows(SUN_LIMIT);
        /** The squares with an arcade or a tree. */
        final Rows roofs = new Rows(1);
        /** The squares without a house. */
        final Rows ground = new Rows(1);
        /** Four to a square, north to west; NONE beyond the town and for a house. */
        final int[] next = new int[4 * SQUARES];
        final int[] queue = new int[SQUARES];
        final int[] steps = new int[SQUARES];
        Town town;

        Sky(Town town) {
            this.town = town;
        }

        void build(Town told) {
            town = told;
            layGround();
            findLines();
            castShadows();
            shades.empty();
            for (int i = 0; i < DAYS * MINUTES; i++) {
                if (lines[i] == NONE) {
                    shades.fillRow(i);
                } else {
                    shades.join(i, casts, lines[i]);
                    shades.join(i, roofs, 0);
                    shades.join(i, town.awnings, i);
                }
            }
        }

        private void layGround() {
            roofs.empty();
            ground.empty();
            for (int square = 0; square < SQUARES; square++) {
                if (town.isOpen(square)) {
                    ground.put(0, square);
                    if (!town.isBare(square)) {
                        roofs.put(0, square);
                    }
                }
                for (int piece = 0; piece < 4; piece++) {
                    int goal = away(square, 2 * piece, 1);
                    next[4 * square + piece] = town.isOpen(goal) ? goal : NONE;
                }
            }
        }

        /** The lines of a day stand in the order of their minutes: each holds until the next one. */
        private void findLines() {
            Arrays.fill(lines, NONE);
            for (int line = 0; line < town.sunLines; line++) {
                Sun sun = town.sun(line);
                if (sun != null && isTime(sun.day, sun.minute)) {
                    Arrays.fill(lines, row(sun.day, sun.minute), row(sun.day, MINUTES), line);
                }
            }
        }

        private void castShadows() {
            casts.empty();
            for (int line = 0; line < town.sunLines; line++) {
                Sun sun = town.sun(line);
                for (int square = 0; square < SQUARES && sun != null; square++) {
                    if (town.heights[square] > 0) {
                        sun.cast(casts, line, square, town.heights[square]);
                    }
                }
            }
        }

        int lineAt(int day, int minute) {
            return isTime(day, minute) ? lines[row(day, minute)] : NONE;
        }

        int howDim(int row) {
            return shades.howMany(row, ground);
        }

        /** How many squares without a house are in shade in one row and not in another one. */
        int howManyOnlyIn(int row, int other) {
            int many = 0;
            for (int square = 0; square < SQUARES; square++) {
                if (ground.has(0, square) && shades.has(row, square) && !shades.has(other, square)) {
                    many++;
                }
            }
            return many;
        }

        int nextTo(int square, int piece) {
            return isSquare(square) && piece >= 0 && piece < 4 ? next[4 * square + piece] : NONE;
        }

        boolean isNext(int square, int other) {
            for (int piece = 0; piece < 4; piece++) {
                if (other >= 0 && nextTo(square, piece) == other) {
                    return true;
                }
            }
            return false;
        }

        /** The fewest steps from one square to another one, shut or not; NONE if there is no way. */
        int fewestSteps(int from, int to) {
            if (!isSquare(from) || !isSquare(to)) {
                return NONE;
            }
            Arrays.fill(steps, NONE);
            steps[from] = 0;
            queue[0] = from;
            int size = 1;
            for (int i = 0; i < size && i < SQUARES; i++) {
                for (int piece = 0; piece < 4; piece++) {
                    int goal = nextTo(queue[i], piece);
                    if (goal >= 0 && steps[goal] == NONE && size < SQUARES) {
                        steps[goal] = steps[queue[i]] + 1;
                        queue[size] = goal;
                        size++;
                    }
                }
            }
            return steps[to];
        }
    }

    /** The search for trips of one walker on one day, and the way that was found. */
    private static final class Walk {
        /** Every cost of every minute is looked for. */
        static final int ALL = 0;
        /** Only what costs less than all that came sooner is looked for. */
        static final int CHEAPER = 1;
        /** The search ends with who comes first. */
        static final int FIRST = 2;
        /** So it does here, and what a minute costs is heat. */
        static final int BEARABLE = 3;

        final Sky sky;
        final Rows dark = new Rows(MINUTES);
        /** The squares to which the search has come in each minute: those in reach that are not FAR. */
        final Rows live = new Rows(MINUTES);
        /** By minute and square: the least cost to be there. */
        final int[] reach = new int[MINUTES * SQUARES];
        /** By minute and square: the least label of the rest of the trip, or the most heat that may be there. */
        final int[] labels = new int[MINUTES * SQUARES];
        /** By minute and square: what others there cost; null without others. */
        int[] extra;
        final Chain way = new Chain(MINUTES);
        /** The square of each minute of the way. */
        final int[] path = new int[MINUTES];
        Walker walker = new Walker();
        int day;
        int first;
        int from;
        int to;
        int hot;
        int cool;
        boolean waits;
        int aims;
        int most;
        int cost;
        int arrival;
        int place;

        Walk(Sky sky) {
            this.sky = sky;
        }

        void set(Walker who, int ofDay) {
            walker = who;
            day = ofDay;
            hot = 1;
            cool = 0;
            waits = true;
            aims = ALL;
            takeShade();
        }

        /** The shade as it is; what was planted or put up to try it is gone. */
        void takeShade() {
            dark.copy(sky.shades, row(day, 0));
        }

        void aim(int minute, int start, int target) {
            first = Math.max(0, minute);
            from = start;
            to = target;
        }

        /** The least cost of a trip, with it the soonest minute. */
        boolean seekLeast(int by) {
            begin(CHEAPER, FAR - 1, by);
            return run(by);
        }

        boolean seekBelow(int limit, int by) {
            begin(CHEAPER, limit - 1, by);
            return run(by);
        }

        void seekFirst(int limit) {
            begin(FIRST, limit, LAST);
            run(LAST);
        }

        void seekBearable() {
            begin(BEARABLE, walker.bears, LAST);
            run(LAST);
        }

        void seekAll() {
            begin(ALL, FAR - 1, LAST);
            run(LAST);
        }

        /** Goes on from the live squares, beside what was kept: a trip that costs less than a limit. */
        boolean seekOn(int limit) {
            aims = CHEAPER;
            most = limit - 1;
            arrival = NONE;
            System.arraycopy(labels, 0, reach, 0, MINUTES * SQUARES);
            return run(LAST);
        }

        private void begin(int aim, int limit, int by) {
            aims = aim;
            most = limit;
            arrival = NONE;
            live.empty();
            Arrays.fill(reach, FAR);
            if (first <= by) {
                offer(first, from, 0);
            }
        }

        /** From minute to minute, as no piece goes back in time. */
        private boolean run(int by) {
            int end = Math.min(by, LAST);
            for (int minute = first; minute <= end && most >= 0; minute++) {
                for (int half = 0; half < 2; half++) {
                    long left = live.word(minute, half);
                    for (int i = 0; i < 64 && left != 0; i++) {
                        goOn(minute, 64 * half + Rows.lowest(left), end);
                        left &= left - 1;
                    }
                }
            }
            return arrival != NONE;
        }

        private void goOn(int minute, int square, int end) {
            int spent = reached(minute, square);
            if (spent > most || square == to) {
                return;
            }
            spent = after(spent, minute, square);
            if (spent <= most && waits && minute < end) {
                offer(minute + 1, square, spent);
            }
            int comes = minute + walker.pace;
            for (int m = minute + 1; m < comes && spent <= most; m++) {
                spent = after(spent, m, square);
            }
            for (int piece = 0; piece < 4 && spent <= most && comes <= end; piece++) {
                int goal = sky.nextTo(square, piece);
                if (goal >= 0 && (sky.town.shutLines == 0 || !isShut(comes, goal))) {
                    offer(comes, goal, aims == BEARABLE && sky.town.water.has(0, goal) ? 0 : spent);
                }
            }
        }

        /** What it has cost behind a minute on a square; of heat how much there is then. */
        private int after(int spent, int minute, int square) {
            boolean shady = dark.has(minute, square);
            if (aims == BEARABLE) {
                int heat = shady ? Math.max(0, spent - walker.mends) : spent + 1;
                return heat > walker.bears ? FAR : heat;
            }
            int at = minute * SQUARES + square;
            int others = extra == null || at < 0 || at >= extra.length ? 0 : extra[at];
            return spent + (shady ? cool : hot) + others;
        }

        private void offer(int minute, int square, int spent) {
            int at = minute * SQUARES + square;
            if (spent > most || at < 0 || at >= reach.length || spent >= reach[at]) {
                return;
            }
            reach[at] = spent;
            live.put(minute, square);
            if (square == to) {
                cost = spent;
                arrival = minute;
                most = aims == ALL ? most : aims == CHEAPER ? spent - 1 : NONE;
            }
        }

        boolean isShut(int minute, int square) {
            return sky.town.shuts.has(row(day, minute), square);
        }

        int reached(int minute, int square) {
            int at = minute * SQUARES + square;
            return square < 0 || at < 0 || at >= reach.length ? FAR : reach[at];
        }

        int labelled(int minute, int square) {
            int at = minute * SQUARES + square;
            return square < 0 || at < 0 || at >= labels.length ? FAR : labels[at];
        }

        /** Keeps what a search has found beside what the next one finds. */
        void keepReached() {
            System.arraycopy(reach, 0, labels, 0, MINUTES * SQUARES);
        }

        /** The i-th minute in which one comes with less than ever sooner, NONE if there are not so many. */
        int arrivalNumber(int i) {
            int left = i;
            for (int minute = first; minute <= LAST; minute++) {
                if (live.has(minute, to)) {
                    if (left == 0) {
                        return minute;
                    }
                    left--;
                }
            }
            return NONE;
        }

        /** What so many minutes on a square cost. */
        int spent(int minute, int minutes, int square) {
            int sum = 0;
            for (int m = minute; m < minute + minutes; m++) {
                sum = after(sum, m, square);
            }
            return sum;
        }

        /**
         * Labels each minute and square from a minute on with the best rest of a trip that comes by a minute;
         * on a way that was found only those can be that the search has come to.
         */
        void labelBack(int start, int by, boolean found) {
            int low = Math.max(0, start);
            int high = Math.min(by, LAST);
            if (low > high) {
                return;
            }
            Arrays.fill(labels, low * SQUARES, (high + 1) * SQUARES, FAR);
            for (int minute = high; minute >= low; minute--) {
                for (int half = 0; half < 2; half++) {
                    long left = found ? live.word(minute, half) : sky.ground.word(0, half);
                    for (int i = 0; i < 64 && left != 0; i++) {
                        label(minute, 64 * half + Rows.lowest(left), high);
                        left &= left - 1;
                    }
                }
            }
        }

        private void label(int minute, int square, int by) {
            if (!isMinute(minute) || !isSquare(square)) {
                return;
            }
            if (square == to) {
                labels[minute * SQUARES + square] = minute;
                return;
            }
            int best = FAR;
            for (int piece = 0; piece < 4; piece++) {
                best = Math.min(best, labelBehind(minute, square, piece, by));
            }
            if (best < FAR) {
                best += LABEL * spent(minute, walker.pace, square);
            }
            if (minute < by && labelled(minute + 1, square) < FAR) {
                best = Math.min(best, labelled(minute + 1, square) + LABEL * after(0, minute, square));
            }
            labels[minute * SQUARES + square] = best;
        }

        /** The label where a step leads, FAR if it can't be. */
        private int labelBehind(int minute, int square, int piece, int by) {
            int comes = minute + walker.pace;
            int goal = comes > by ? NONE : sky.nextTo(square, piece);
            if (goal < 0 || sky.town.shutLines > 0 && isShut(comes, goal)) {
                return FAR;
            }
            return labelled(comes, goal);
        }

        /** Goes the way of the least that was found and labelled: of all that cost as little the first in order. */
        void traceWay() {
            int by = arrival;
            beginWay();
            for (int i = 0; i < MINUTES && place != to && arrival < by; i++) {
                goPiece(firstPiece(by));
            }
        }

        private int firstPiece(int by) {
            int label = labelled(arrival, place);
            int price = LABEL * spent(arrival, walker.pace, place);
            for (int piece = 0; piece < 4; piece++) {
                int rest = labelBehind(arrival, place, piece, by);
                if (rest < FAR && rest + price == label) {
                    return piece;
                }
            }
            return WAIT;
        }

        private void beginWay() {
            way.empty();
            Arrays.fill(path, NONE);
            arrival = first;
            place = from;
        }

        private void goPiece(int piece) {
            int comes = arrival + lengthOf(piece);
            for (int minute = Math.max(0, arrival); minute < comes && minute < MINUTES; minute++) {
                path[minute] = place;
            }
            arrival = comes;
            place = piece == WAIT ? place : sky.nextTo(place, piece);
            way.add(piece);
        }

        private int lengthOf(int piece) {
            return piece == WAIT ? 1 : walker.pace;
        }

        /** Goes told pieces as far as they can be: why the next one can't, 0 if all can. */
        int goAlong(Chain told) {
            beginWay();
            for (int i = 0; i < told.size; i++) {
                int why = whyNot(told.at(i));
                if (why != 0) {
                    return why;
                }
                goPiece(told.at(i));
            }
            return 0;
        }

        private int whyNot(int piece) {
            int goal = piece == WAIT ? place : away(place, 2 * piece, 1);
            if (goal == NONE) {
                return 1;
            }
            if (!sky.town.isOpen(goal)) {
                return 2;
            }
            int comes = arrival + lengthOf(piece);
            if (comes > LAST) {
                return 3;
            }
            return piece != WAIT && isShut(comes, goal) ? 4 : 0;
        }

        int sunOnPath() {
            int sun = 0;
            for (int minute = 0; minute < MINUTES; minute++) {
                if (path[minute] != NONE && !dark.has(minute, path[minute])) {
                    sun++;
                }
            }
            return sun;
        }

        int greatestHeat() {
            int heat = 0;
            int greatest = 0;
            for (int minute = first; minute < arrival && minute < MINUTES; minute++) {
                boolean came = minute > first && path[minute] != path[minute - 1];
                if (came && sky.town.water.has(0, path[minute])) {
                    heat = 0;
                }
                heat = dark.has(minute, path[minute]) ? Math.max(0, heat - walker.mends) : heat + 1;
                greatest = Math.max(greatest, heat);
            }
            return greatest;
        }

        int waitsOnWay() {
            int many = 0;
            for (int i = 0; i < way.size; i++) {
                if (way.at(i) == WAIT) {
                    many++;
                }
            }
            return many;
        }

        /** The most waits one behind the other. */
        int longestRest() {
            int longest = 0;
            int rest = 0;
            for (int i = 0; i < way.size; i++) {
                rest = way.at(i) == WAIT ? rest + 1 : 0;
                longest = Math.max(longest, rest);
            }
            return longest;
        }

        /** Where so many waits one behind the other are first, NONE if there are none. */
        int restPlace(int longest) {
            int minute = first;
            int rest = 0;
            for (int i = 0; i < way.size && longest > 0; i++) {
                rest = way.at(i) == WAIT ? rest + 1 : 0;
                if (rest == longest && isMinute(minute)) {
                    return path[minute];
                }
                minute += lengthOf(way.at(i));
            }
            return NONE;
        }

        /**
         * Labels every minute and square with the most heat with which one may be there and still bear a trip,
         * NONE if none may be: with less heat one can do all that one can with more.
         */
        void allowHeat() {
            for (int minute = LAST; minute >= 0; minute--) {
                for (int square = 0; square < SQUARES; square++) {
                    labels[minute * SQUARES + square] = square == to ? walker.bears : allowedAt(minute, square);
                }
            }
        }

        private int allowedAt(int minute, int square) {
            if (!sky.ground.has(0, square)) {
                return NONE;
            }
            int best = NONE;
            int comes = minute + walker.pace;
            if (comes <= LAST) {
                for (int piece = 0; piece < 4; piece++) {
                    best = Math.max(best, allowedBehind(comes, sky.nextTo(square, piece)));
                }
                for (int m = comes - 1; m >= minute; m--) {
                    best = allowedAhead(best, m, square);
                }
            }
            if (minute < LAST) {
                best = Math.max(best, allowedAhead(labelled(minute + 1, square), minute, square));
            }
            return best;
        }

        /** The most heat with which one may come to a square by a step. */
        private int allowedBehind(int comes, int goal) {
            if (goal < 0 || isShut(comes, goal) || labelled(comes, goal) < 0) {
                return NONE;
            }
            return sky.town.water.has(0, goal) ? walker.bears : labelled(comes, goal);
        }

        /** The most heat ahead of a minute on a square that leaves no more than so much behind it. */
        private int allowedAhead(int heat, int minute, int square) {
            if (heat < 0) {
                return NONE;
            }
            return dark.has(minute, square) ? Math.min(walker.bears, heat + walker.mends) : heat - 1;
        }
    }

    /** What more trees or an awning would do for the trip of a walk. */
    private static final class Garden {
        final Walk walk;
        final Rows shadows = new Rows(SUN_LIMIT);
        /** The squares to which one can come in each minute as it is. */
        final Rows near = new Rows(MINUTES);
        int chosen;
        int best;
        int gain;

        Garden(Walk walk) {
            this.walk = walk;
        }

        /** The walk has just found the least as it is. */
        private void begin(int choice) {
            chosen = choice;
            best = walk.cost;
            gain = 0;
            walk.keepReached();
            near.copy(walk.live, 0);
        }

        private void choose(int choice) {
            gain += best - walk.cost;
            best = walk.cost;
            chosen = choice;
        }

        /**
         * Whether the shade that the walk has now makes the least less. All is as it was found, but for what
         * comes behind a minute that one can have in the new shade: so the search goes on from there.
         */
        private boolean helps() {
            walk.live.empty();
            for (int minute = walk.first; minute < MINUTES; minute++) {
                for (int more = minute; more < minute + walk.walker.pace; more++) {
                    wake(minute, more, 0);
                    wake(minute, more, 1);
                }
            }
            return walk.seekOn(best);
        }

        /** Makes those live who may leave a square in a minute and have the new shade of another one. */
        private void wake(int minute, int later, int half) {
            long old = walk.sky.shades.word(row(walk.day, later), half);
            walk.live.joinHalf(minute, half, walk.dark.word(later, half) & ~old & near.word(minute, half));
        }

        void tryTrees(int height) {
            begin(NONE);
            for (int square = 0; square < SQUARES && best > 0; square++) {
                if (walk.sky.town.isBare(square)) {
                    walk.takeShade();
                    addTree(square, height);
                    if (helps()) {
                        choose(square);
                    }
                }
            }
        }

        void tryAwnings() {
            begin(NONE);
            for (int square = 0; square < SQUARES && best > 0; square++) {
                if (walk.sky.town.isBare(square)) {
                    walk.takeShade();
                    for (int minute = 0; minute < MINUTES; minute++) {
                        walk.dark.put(minute, square);
                    }
                    if (helps()) {
                        choose(square);
                    }
                }
            }
        }

        /** The sets by how many they have, then as bits; no set can do more than all spots together. */
        void trySets(int height, int many) {
            begin(0);
            int all = (1 << walk.sky.town.places.size) - 1;
            addTrees(all, height);
            int goal = helps() ? walk.cost : best;
            for (int size = 1; size <= many && best > goal; size++) {
                for (int set = 1; set <= all && best > goal; set++) {
                    if (Integer.bitCount(set) == size) {
                        addTrees(set, height);
                        if (helps()) {
                            choose(set);
                        }
                    }
                }
            }
        }

        private void addTrees(int set, int height) {
            walk.takeShade();
            for (int i = 0; i < SPOT_LIMIT; i++) {
                if ((set >> i & 1) != 0) {
                    addTree(walk.sky.town.places.at(i), height);
                }
            }
        }

        private void addTree(int square, int height) {
            for (int line = 0; line < walk.sky.town.sunLines; line++) {
                Sun sun = walk.sky.town.sun(line);
                if (sun != null && sun.day == walk.day) {
                    shadows.emptyRow(line);
                    shadows.put(line, square);
                    sun.cast(shadows, line, square, height);
                }
            }
            for (int minute = 0; minute < MINUTES; minute++) {
                walk.dark.join(minute, shadows, walk.sky.lineAt(walk.day, minute));
            }
        }
    }

    /** Walkers of one sort on one trip who make room for one another. */
    private static final class Crowd {
        /** Far above what they need: each change makes what all of them bear together less. */
        static final int MANY_ROUNDS = 1000000;

        final Walk walk;
        /** By member and minute: where one is, NONE where one is not yet or no more. */
        final int[] where = new int[CROWD_LIMIT * MINUTES];
        /** By minute and square: what those there cost another one. */
        final int[] crowding = new int[MINUTES * SQUARES];
        int members;
        int each;
        int by;
        int rounds;
        int costs;
        int suns;
        int greatest;

        Crowd(Walk walk) {
            this.walk = walk;
        }

        /** Whether one can come by that minute; if so all have chosen. */
        boolean gather(int byMinute, int n, int eachOther) {
            members = Math.max(0, Math.min(n, CROWD_LIMIT));
            each = eachOther;
            by = byMinute;
            Arrays.fill(crowding, 0);
            walk.extra = crowding;
            boolean all = true;
            for (int member = 0; member < members && all; member++) {
                all = choose(member, FAR);
            }
            boolean changed = all;
            rounds = 0;
            for (int i = 0; i < MANY_ROUNDS && changed; i++) {
                changed = false;
                for (int member = 0; member < members; member++) {
                    crowdOut(member, -each);
                    if (choose(member, costOf(member, false))) {
                        changed = true;
                    } else {
                        crowdOut(member, each);
                    }
                }
                rounds++;
            }
            if (all) {
                addUp();
            }
            walk.extra = null;
            return all;
        }

        /** Takes the best way that costs less than a limit, if there is one. */
        private boolean choose(int member, int limit) {
            if (!walk.seekBelow(limit, by)) {
                return false;
            }
            walk.labelBack(walk.first, walk.arrival, true);
            walk.traceWay();
            System.arraycopy(walk.path, 0, where, member * MINUTES, MINUTES);
            crowdOut(member, each);
            return true;
        }

        /** What a member costs each other one where it is, added or (below 0) taken away. */
        private void crowdOut(int member, int amount) {
            for (int minute = 0; minute < MINUTES; minute++) {
                int square = whereIs(member, minute);
                if (isSquare(square)) {
                    crowding[minute * SQUARES + square] += amount;
                }
            }
        }

        /** The cost of a way beside what crowds it. */
        private int costOf(int member, boolean sunAlone) {
            int sum = 0;
            for (int minute = 0; minute < MINUTES; minute++) {
                int square = whereIs(member, minute);
                if (isSquare(square)) {
                    sum += walk.dark.has(minute, square) ? 0 : 1;
                    sum += sunAlone ? 0 : crowding[minute * SQUARES + square];
                }
            }
            return sum;
        }

        private int whereIs(int member, int minute) {
            int at = member * MINUTES + minute;
            return at < 0 || at >= where.length ? NONE : where[at];
        }

        private void addUp() {
            costs = 0;
            suns = 0;
            greatest = 0;
            for (int member = 0; member < members; member++) {
                crowdOut(member, -each);
                int cost = costOf(member, false);
                crowdOut(member, each);
                costs += cost;
                suns += costOf(member, true);
                greatest = Math.max(greatest, cost);
            }
        }
    }
}

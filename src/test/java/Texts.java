import java.util.ArrayList;
import java.util.List;
import java.util.Random;

/** Texts of towns by chance, always the same ones for the same seed. */
final class Texts {
    private final Random chance;
    private final List<String> tokens = new ArrayList<>();

    Texts(long seed) {
        chance = new Random(seed);
    }

    int upTo(int n) {
        return chance.nextInt(n + 1);
    }

    int between(int low, int high) {
        return low + upTo(high - low);
    }

    boolean once(int in) {
        return chance.nextInt(in) == 0;
    }

    /** A minute, more often a late one: there the trips that can be gone in every way are. */
    int lateMinute() {
        return once(3) ? upTo(119) : between(106, 119);
    }

    private void add(Object... parts) {
        for (Object part : parts) {
            tokens.add(part.toString());
        }
    }

    /** The text of a town that mostly has no fault, never above 1,000 signs. */
    String town(boolean dense) {
        tokens.clear();
        int side = dense ? 3 : 9;
        int corner = dense ? upTo(6) : 0;
        List<String> used = new ArrayList<>();
        int things = upTo(dense ? 5 : 14);
        for (int i = 0; i < things; i++) {
            int x = corner + upTo(side);
            int y = corner + upTo(side);
            if (!used.contains(x + " " + y)) {
                used.add(x + " " + y);
                building(x, y);
            }
        }
        int timed = upTo(4);
        for (int i = 0; i < timed; i++) {
            add(once(2) ? "awning" : "shut", corner + upTo(side), corner + upTo(side), "when");
            expression(0);
            add(";");
        }
        for (int i = upTo(3); i > 0; i--) {
            add("water", corner + upTo(side), corner + upTo(side), ";");
        }
        for (int day = 0; day < 4; day++) {
            suns(day);
        }
        for (int n = 0; n < 6; n++) {
            if (!once(4)) {
                add("walker", n, "pace", between(1, 3), "bears", once(2) ? between(1, 4) : between(1, 99), "mends",
                        between(1, 3), "ice", once(2) ? upTo(30) : upTo(9999), "hot", upTo(9), "cool", upTo(5), ";");
            }
        }
        String text = joined();
        return text.length() <= 1000 ? text : town(dense);
    }

    /** A small part of the town where shade and what is shut change from minute to minute: there waits pay. */
    String patchwork(boolean late) {
        tokens.clear();
        int corner = upTo(6);
        for (int i = 0; i < 16; i++) {
            int x = corner + i % 4;
            int y = corner + i / 4;
            int kind = upTo(9);
            if (kind < 2) {
                add("arcade", x, y, ";");
            } else if (kind == 2) {
                add(once(2) ? "house" : "tree", x, y, between(1, 9), ";");
            }
        }
        for (int i = between(6, 10); i > 0; i--) {
            int begin = late ? between(107, 117) : upTo(110);
            int end = begin + between(2, late ? 6 : 30);
            add(once(3) ? "shut" : "awning", corner + upTo(3), corner + upTo(3), "when", begin, "<", "minute", "and",
                    "minute", "<", end, ";");
        }
        add("water", corner + upTo(3), corner + upTo(3), ";");
        for (int day = 0; day < 4; day++) {
            add("sun", day, "from", once(2) ? 0 : upTo(110), Model.DIRECTIONS.get(upTo(7)), between(1, 9), "over",
                    between(1, 9), ";");
        }
        for (int n = 0; n < 4; n++) {
            add("walker", n, "pace", once(2) ? 1 : between(2, 3), "bears", between(1, 5), "mends", between(1, 3), "ice",
                    upTo(99), "hot", upTo(9), "cool", upTo(5), ";");
        }
        String text = joined();
        return text.length() <= 1000 ? text : patchwork(late);
    }

    private void building(int x, int y) {
        int kind = upTo(4);
        if (kind == 4) {
            add("arcade", x, y, ";");
        } else {
            add(kind == 3 ? "tree" : "house", x, y, once(2) ? between(1, 9) : between(1, 99), ";");
        }
    }

    private void suns(int day) {
        int minute = once(2) ? upTo(119) : 0;
        for (int i = upTo(3); i > 0 && minute < 120; i--) {
            add("sun", day, "from", minute, Model.DIRECTIONS.get(upTo(7)), between(1, once(2) ? 9 : 99), "over",
                    between(1, once(2) ? 9 : 99), ";");
            minute = once(2) ? minute + between(1, 9) : Math.max(minute + 1, between(105, 119));
        }
    }

    void expression(int depth) {
        test(depth);
        for (int i = 0; i < 3 && once(4); i++) {
            add(once(2) ? "and" : "or");
            test(depth);
        }
    }

    private void test(int depth) {
        sum(depth);
        if (!once(3)) {
            add(once(3) ? "=" : "<");
            sum(depth);
        }
    }

    private void sum(int depth) {
        product(depth);
        for (int i = 0; i < 3 && once(4); i++) {
            add(once(2) ? "+" : "-");
            product(depth);
        }
    }

    private void product(int depth) {
        part(depth);
        for (int i = 0; i < 3 && once(6); i++) {
            add("*");
            part(depth);
        }
    }

    private void part(int depth) {
        int kind = upTo(9);
        if (kind < 2 && depth < 4) {
            add("not");
            part(depth + 1);
        } else if (kind == 2 && depth < 4) {
            add("(");
            expression(depth + 1);
            add(")");
        } else if (kind < 7) {
            add("minute");
        } else if (kind == 7) {
            add("day");
        } else {
            add(once(3) ? upTo(9999) : once(2) ? upTo(3) : between(100, 120));
        }
    }

    /** The tokens with blanks where they have to be, and by chance elsewhere. */
    private String joined() {
        StringBuilder text = new StringBuilder();
        for (String token : tokens) {
            if (text.length() > 0) {
                char last = text.charAt(text.length() - 1);
                char first = token.charAt(0);
                boolean needed = Character.isLetter(last) && Character.isLetter(first)
                        || Character.isDigit(last) && Character.isDigit(first);
                if (needed || once(20)) {
                    text.append(once(5) ? '\n' : ' ');
                }
            }
            text.append(token);
        }
        return text.toString();
    }

    /** The text with one thing changed: a sign or a token left out, put in, doubled or put for another. */
    String spoiled(String text) {
        String[] more = {"house", "tree", "arcade", "awning", "shut", "water", "sun", "walker", "when", "from",
            "over", "pace", "and", "or", "not", "minute", "day", "(", ")", "<", "=", "+", "-", "*", ";", "0", "1",
            "9", "10", "99", "100", "119", "120", "9999", "10000", "north", "northwest", "northeasts", "A", "#",
            " ", "not not not not not", "((((("};
        String word = more[upTo(more.length - 1)];
        int i = upTo(text.length());
        int j = Math.min(text.length(), i + upTo(5));
        String blank = once(2) ? " " : "";
        switch (upTo(3)) {
            case 0:
                return text.substring(0, i) + text.substring(j);
            case 1:
                return text.substring(0, i) + blank + word + blank + text.substring(i);
            case 2:
                return text.substring(0, i) + blank + word + blank + text.substring(j);
            default:
                return text.substring(0, j) + text.substring(i);
        }
    }
}

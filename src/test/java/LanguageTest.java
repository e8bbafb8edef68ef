/** The language of towns: tokens, faults by kind and place, limits, and what an E is worth. */
public final class LanguageTest {
    private static final String WALKER = "pace 1 bears 1 mends 1 ice 0 hot 0 cool 0 ;";

    private LanguageTest() {
    }

    public static void main(String[] args) {
        tokens();
        places();
        twice();
        numbers();
        limits();
        depth();
        values();
        sideEffects();
        spoiled();
        Check.end();
    }

    private static void fault(String text, int kind, int place) {
        Check.due("fault of " + text, Check.town(new ShadySide(), text), kind == 0 ? 0 : kind + 16 * place);
    }

    /** The fault lies where this piece of the text stands last. */
    private static void faultAt(String text, int kind, String piece) {
        fault(text, kind, text.lastIndexOf(piece));
    }

    private static void tokens() {
        fault("", 0, 0);
        fault("   \n ", 0, 0);
        fault("house 1 2 3 ;", 0, 0);
        fault("house1 2 3;tree3 4 5;arcade 0 0;", 0, 0);
        fault("house 1 2 3;", 0, 0);
        fault("water1 1;sun0from0north1over1;walker0pace1bears1mends1ice0hot0cool0;", 0, 0);
        fault("house 12 3;", 4, 6);
        fault("house 0001 0002 0003;", 0, 0);
        fault("house 00001 2 3;", 1, 6);
        fault("house 1 2 12345;", 1, 10);
        faultAt("house 1 2 3; northeasts", 1, "northeasts");
        fault("abcdefghij", 1, 0);
        fault("abcdefghi", 1, 0);
        fault("House 1 2 3;", 1, 0);
        fault("housE 1 2 3;", 1, 0);
        fault("houses 1 2 3;", 1, 0);
        fault("hous 1 2 3;", 1, 0);
        fault("housez 1 2 3;", 1, 0);
        fault("house 1 2 3z;", 1, 11);
        fault("house 1 2 3 ;{", 1, 13);
        fault("house 1 2 3 ;`", 1, 13);
        fault("house 1 2 3 ;/", 1, 13);
        fault("house 1 2 3 ;:", 1, 13);
        fault("house 1, 2 3;", 1, 7);
        fault("house 1 2 3;#", 1, 12);
        fault("house\n1\n2\n3\n;\n", 0, 0);
        faultAt("sun 0 from 0 northeast 1 over 1; sun 1 from 0 north east 1 over 1;", 1, "east 1 over 1;");
    }

    /** The end is a token at the length of the text, blanks behind it or not. */
    private static void places() {
        fault("house", 1, 5);
        fault("house ", 1, 6);
        fault("house 1 2 3", 1, 11);
        fault("house 1 2 3 \n ", 1, 14);
        fault(";", 1, 0);
        fault("1", 1, 0);
        fault("house 1 2 3;;", 1, 12);
        fault("house 1 2;", 1, 9);
        fault("arcade 1 2 3;", 1, 11);
        fault("house ( 2 3;", 1, 6);
        fault("house 1 x 3;", 1, 8);
        fault("house - 1 2 3;", 1, 6);
        fault("awning 1 2 1;", 1, 11);
        fault("awning 1 2 when;", 1, 15);
        fault("awning 1 2 when 1", 1, 17);
        fault("awning 1 2 when 1 1;", 1, 18);
        fault("awning 1 2 when 1 +;", 1, 19);
        fault("awning 1 2 when + 1;", 1, 16);
        fault("awning 1 2 when (1;", 1, 18);
        fault("awning 1 2 when 1);", 1, 17);
        fault("awning 1 2 when ();", 1, 17);
        fault("awning 1 2 when 1 = 2 = 3;", 1, 22);
        fault("awning 1 2 when 1 < 2 = 3;", 1, 22);
        fault("awning 1 2 when 1 < 2 + 3 * 4 < 3;", 1, 30);
        fault("awning 1 2 when (1 < 2) < 3;", 0, 0);
        fault("awning 1 2 when 1 < 2 and 2 < 3 or 1 = 1;", 0, 0);
        fault("awning 1 2 when not;", 1, 19);
        fault("awning 1 2 when not 1 not 2;", 1, 22);
        fault("awning 1 2 when minute 5;", 1, 23);
        fault("awning 1 2 when minutes;", 1, 16);
        fault("awning 1 2 when 12345;", 1, 16);
        fault("awning 1 2 when 9999;", 0, 0);
        fault("awning 1 2 when house;", 1, 16);
        fault("sun 0 at 5 north 1 over 1;", 1, 6);
        fault("sun 0 from 5 1 over 1;", 1, 13);
        fault("sun 0 from 5 when 1 over 1;", 1, 13);
        fault("sun 0 from 5 north 1 1;", 1, 21);
        fault("walker 0 bears 1 pace 1;", 1, 9);
        fault("walker 0 pace 1 bears 1 mends 1 ice 0 hot 0;", 1, 43);
        fault("water 1 2 3;", 1, 10);
    }

    private static void twice() {
        fault("house 1 2 3; house 1 2 3;", 3, 21);
        fault("house 1 2 3; tree 1 2 0;", 3, 20);
        fault("house 1 2 3; arcade 1 2;", 3, 22);
        fault("arcade 1 2; arcade 1 2 x", 3, 21);
        fault("tree 1 2 3; house 1 2", 3, 20);
        fault("house 1 2 3; house 2 1 3;", 0, 0);
        fault("house 1 2 3; awning 1 2 when 1; shut 1 2 when 1; water 1 2; water 1 2;", 0, 0);
        fault("house 1 2 3; house 1 10 3;", 4, 21);
        fault("walker 0 " + WALKER + "walker 0 pace 9", 3, WALKER.length() + 16);
        fault("walker 0 " + WALKER + "walker 6 pace 9", 4, WALKER.length() + 16);
        fault("walker 0 " + WALKER + "walker 1 " + WALKER, 0, 0);
        fault("sun 0 from 5 north 1 over 1; sun 0 from 5 north 1 over 1;", 3, 40);
        fault("sun 0 from 5 north 1 over 1; sun 0 from 4 over", 3, 40);
        fault("sun 0 from 5 north 1 over 1; sun 0 from 120 over", 4, 40);
        fault("sun 0 from 5 north 1 over 1; sun 1 from 5 north 1 over 1; sun 0 from 6 north 1 over 1;", 0, 0);
    }

    private static void numbers() {
        fault("house 10 0 1;", 4, 6);
        fault("house 0 10 1;", 4, 8);
        fault("house 9 9 99;", 0, 0);
        fault("house 9 9 0;", 4, 10);
        fault("house 9 9 100;", 4, 10);
        fault("tree 9 9 0;", 4, 9);
        fault("tree 9 9 100;", 4, 9);
        fault("arcade 9 10;", 4, 9);
        fault("water 10 9;", 4, 6);
        fault("awning 9 10 when 1;", 4, 9);
        fault("shut 10 1 when 1;", 4, 5);
        fault("sun 4 from 0 north 1 over 1;", 4, 4);
        fault("sun 3 from 119 north 99 over 99;", 0, 0);
        fault("sun 3 from 120 north 1 over 1;", 4, 11);
        fault("sun 3 from 0 north 0 over 1;", 4, 19);
        fault("sun 3 from 0 north 100 over 1;", 4, 19);
        fault("sun 3 from 0 north 1 over 0;", 4, 26);
        fault("sun 3 from 0 north 1 over 100;", 4, 26);
        fault("walker 5 pace 3 bears 99 mends 99 ice 9999 hot 99 cool 99;", 0, 0);
        fault("walker 6 " + WALKER, 4, 7);
        fault("walker 5 pace 0 bears 1 mends 1 ice 0 hot 0 cool 0;", 4, 14);
        fault("walker 5 pace 4 bears 1 mends 1 ice 0 hot 0 cool 0;", 4, 14);
        fault("walker 5 pace 1 bears 0 mends 1 ice 0 hot 0 cool 0;", 4, 22);
        fault("walker 5 pace 1 bears 100 mends 1 ice 0 hot 0 cool 0;", 4, 22);
        fault("walker 5 pace 1 bears 1 mends 0 ice 0 hot 0 cool 0;", 4, 30);
        fault("walker 5 pace 1 bears 1 mends 100 ice 0 hot 0 cool 0;", 4, 30);
        fault("walker 5 pace 1 bears 1 mends 1 ice 10000 hot 0 cool 0;", 1, 36);
        fault("walker 5 pace 1 bears 1 mends 1 ice 0 hot 100 cool 0;", 4, 42);
        fault("walker 5 pace 1 bears 1 mends 1 ice 0 hot 0 cool 100;", 4, 49);
    }

    private static void limits() {
        String timed = "awning 0 0 when 1;".repeat(10) + "shut 0 0 when 0;".repeat(10);
        fault(timed, 0, 0);
        fault(timed + "awning", 5, timed.length());
        fault(timed + "shut 99", 5, timed.length());
        fault(timed + "water 0 0;", 0, 0);
        String waters = "water 1 1;".repeat(10);
        fault(waters, 0, 0);
        fault(waters + " water", 5, waters.length() + 1);
        StringBuilder suns = new StringBuilder();
        for (int i = 0; i < 24; i++) {
            suns.append("sun ").append(i % 4).append(" from ").append(i).append(" west 1 over 1;");
        }
        fault(suns.toString(), 0, 0);
        fault(suns + "sun 9", 5, suns.length());
    }

    private static void depth() {
        fault("awning 0 0 when not not not not 1;", 0, 0);
        fault("awning 0 0 when not not not not not 1;", 5, 36);
        fault("awning 0 0 when not not not not not not 1;", 5, 36);
        fault("awning 0 0 when not not not not not;", 1, 35);
        fault("awning 0 0 when not not not not not +;", 1, 36);
        for (String none : new String[] {";", ")", "?", "when", "house", "12345", "minutes", "and", "<", ""}) {
            fault("awning 0 0 when not not not not not " + none, 1, 36);
            fault("awning 0 0 when (not (not (" + none, 1, 27);
        }
        for (String part : new String[] {"1", "9999", "minute", "day", "not", "("}) {
            fault("awning 0 0 when not not not not not " + part, 5, 36);
            fault("awning 0 0 when (not (not (" + part, 5, 27);
            fault("awning 0 0 when (not (not " + part, 1, 26 + part.length());
        }
        fault("awning 0 0 when ((((1))));", 0, 0);
        fault("awning 0 0 when (((((1)))));", 5, 21);
        fault("awning 0 0 when ((((((1))))));", 5, 21);
        fault("awning 0 0 when ((((()))));", 1, 21);
        fault("awning 0 0 when (not (not minute));", 0, 0);
        fault("awning 0 0 when (not (not (minute)));", 5, 27);
        fault("awning 0 0 when (not (not 1 + (day)));", 0, 0);
        fault("awning 0 0 when (not (1 + (day)));", 0, 0);
        fault("awning 0 0 when (not (1 + (not day)));", 5, 31);
        fault("awning 0 0 when ((((1)))) + ((((1)))) * not not not not minute;", 0, 0);
        fault("awning 0 0 when not not not not 1 and not not not not not 1;", 5, 58);
    }

    /** What the E of an awning is on a day in a minute shows in the shade of a square that has no other. */
    private static void value(String e, int day, int minute, int want) {
        String text = "sun 0 from 0 north 1 over 1;sun 1 from 0 north 1 over 1;sun 2 from 0 north 1 over 1;"
                + "sun 3 from 0 north 1 over 1;awning 4 4 when " + e + ";shut 5 4 when " + e + ";";
        ShadySide x = Check.made(text);
        Check.due("awning when " + e, x.shade(day, minute, 44), want);
        Check.due("shut when " + e, x.shutAt(day, minute, 45), want);
        Check.due("shut has no shade " + e, x.shade(day, minute, 45), 0);
        Check.due("awning is not shut " + e, x.shutAt(day, minute, 44), 0);
    }

    private static void values() {
        value("1", 0, 0, 1);
        value("0", 0, 0, 0);
        value("9999", 0, 0, 1);
        value("0 - 1", 0, 0, 1);
        value("minute", 0, 0, 0);
        value("minute", 0, 119, 1);
        value("day", 0, 5, 0);
        value("day", 3, 5, 1);
        value("minute < 5", 0, 4, 1);
        value("minute < 5", 0, 5, 0);
        value("minute = 5", 0, 5, 1);
        value("minute = 5", 0, 6, 0);
        value("minute + day = 9", 2, 7, 1);
        value("10 - 3 - 2 = 5", 0, 0, 1);
        value("2 + 3 * 4 = 14", 0, 0, 1);
        value("2 * 3 + 4 = 10", 0, 0, 1);
        value("(2 + 3) * 4 = 20", 0, 0, 1);
        value("1 or 1 and 0", 0, 0, 0);
        value("1 or (1 and 0)", 0, 0, 1);
        value("0 and 0 or 1", 0, 0, 1);
        value("2 and 4 = 1", 0, 0, 0);
        value("(2 and 4) = 1", 0, 0, 1);
        value("(0 or 7) = 1", 0, 0, 1);
        value("not 0 = 1", 0, 0, 1);
        value("not 7 = 0", 0, 0, 1);
        value("not 1 < 1", 0, 0, 1);
        value("not 2 + 5 = 5", 0, 0, 1);
        value("not not 7 = 1", 0, 0, 1);
        value("not not 7 * 3 = 3", 0, 0, 1);
        value("(3 < 4) + (4 < 3) * 5 = 1", 0, 0, 1);
        value("(7 = 7) = 1", 0, 0, 1);
        value("(7 = 8) = 0", 0, 0, 1);
        value("(7 = 7) + (7 = 8) + (1 < 2) + (2 < 1) = 2", 0, 0, 1);
        value("(0 and 0) + (0 or 0) = 0", 0, 0, 1);
        value("not 5 + (5 and 5) + not 0 = 2", 0, 0, 1);
        value("9999 * 9999 * 9999 < 0", 0, 0, 9999 * 9999 * 9999 < 0 ? 1 : 0);
        value("9999 * 9999 * 9999 * 9999 < 0", 0, 0, 9999 * 9999 * 9999 * 9999 < 0 ? 1 : 0);
        value("0 - 9999 * 9999 * 21 - 9999 * 9999 < 0", 0, 0, -9999 * 9999 * 21 - 9999 * 9999 < 0 ? 1 : 0);
        value("minute * minute < 100 and not day", 0, 9, 1);
        value("minute * minute < 100 and not day", 1, 9, 0);
    }

    /** A fault leaves all as it was but for the tape; a reading makes all new but for the marks. */
    private static void sideEffects() {
        ShadySide x = Check.made("house 1 1 5; walker 2 " + WALKER);
        x.spot(5);
        x.follow(7);
        x.tell(4);
        x.mark(1, false);
        Check.due("fault", Check.town(x, "tree 5 5 5; what"), 1 + 16 * 12);
        Check.due("the house stays", x.square(11, 1), 5);
        Check.due("no tree", x.square(55, 0), 0);
        Check.due("spots stay", x.count(7), 1);
        Check.due("the procession stays", x.count(8), 1);
        Check.due("told stays", x.count(9), 1);
        Check.due("the tape is taken", x.count(10), 0);
        Check.due("no fault", Check.town(x, "tree 5 5 5;"), 0);
        Check.due("the tree", x.square(55, 1), 5);
        Check.due("no house", x.count(0), 0);
        Check.due("no walker", x.count(6), 0);
        for (int what = 7; what <= 10; what++) {
            Check.due("count " + what, x.count(what), 0);
        }
        Check.due("the mark is there", x.mark(1, true), true);
        Check.due("the house is back", x.square(11, 1), 5);
        Check.due("the walker is back", x.count(6), 1);
        Check.due("an empty tape is an empty town", x.town(), 0);
        Check.due("nothing", x.count(0), 0);
    }

    private static void spoiled() {
        Texts texts = new Texts(99);
        ShadySide x = new ShadySide();
        int calls = 0;
        for (int i = 0; i < 6000; i++) {
            String text = texts.town(i % 2 == 0);
            int changes = texts.upTo(2);
            for (int k = 0; k < changes; k++) {
                text = texts.spoiled(text);
            }
            text = text.length() > 1000 ? text.substring(0, 1000) : text;
            int want = 0;
            try {
                Model.read(text);
            } catch (Model.Fault fault) {
                want = fault.kind + 16 * fault.place;
            }
            calls += text.length() / 24 + 4;
            if (calls > 500) {
                x = new ShadySide();
                calls = text.length() / 24 + 4;
            }
            Check.due("fault of\n" + text + "\n", Check.town(x, text), want);
        }
    }
}

/** Each promise of the document by small towns whose answers are found by hand. */
public final class PromiseTest {
    private PromiseTest() {
    }

    public static void main(String[] args) {
        newObject();
        Check.end();
    }

    private static void newObject() {
        ShadySide x = new ShadySide();
        for (int what = 0; what <= 11; what++) {
            Check.due("count " + what, x.count(what), 0);
        }
        Check.due("NONE", ShadySide.NONE, -1);
    }
}

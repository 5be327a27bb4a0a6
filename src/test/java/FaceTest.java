/** The constants and a new object (promise 1). */
public final class FaceTest {
    public static void main(String[] args) {
        Check.due("NONE", FloatTowns.NONE, -1);
        Check.due("SPENT", FloatTowns.SPENT, -2);
        FloatTowns x = new FloatTowns();
        for (int what = 0; what <= 7; what++) {
            Check.due("count(" + what + ") of a new object", x.count(what), 0);
        }
        Check.due("text(0) of a new object", x.text(0), 0);
        Check.due("text(1) of an empty tape", x.text(1), -2);
        Check.due("fault(0) of a new object", new FloatTowns().fault(0), 0);
        Check.due("fault(1) of a new object", new FloatTowns().fault(1), -1);
        Check.due("all(0) of a new object", new FloatTowns().all(0), 1);
        Check.due("feed is the first of the tape", x.feed(0, 0, 0, 0, 0), 20);
        Check.end("FaceTest");
    }
}

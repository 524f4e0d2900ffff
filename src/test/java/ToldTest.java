/** Promises 6 to 10 and 63: what is told. */
final class ToldTest {
    public static void main(String[] args) {
        HassockRoof x = Check.told(Check.SMALL);
        points(x);
        lookersAndWays(x);
        counts(x);
        Check.finish();
    }

    private static void points(HassockRoof x) {
        Check.due("place(1, 0)", x.place(1, 0), 10);
        Check.due("place(2, 1)", x.place(2, 1), 10);
        Check.due("place(3, 0)", x.place(3, 0), -2);
        Check.due("place(-1, 0)", x.place(-1, 0), -2);
        Check.due("place(0, 2)", x.place(0, 2), -2);
        Check.due("place(0, -1)", x.place(0, -1), -2);
        Check.due("mark(0, 0)", x.mark(0, 0), 20);
        Check.due("mark(1, 1)", x.mark(1, 1), 20);
        Check.due("mark(1, 2)", x.mark(1, 2), 5);
        Check.due("mark(3, 2)", x.mark(3, 2), -2);
        Check.due("mark(0, 3)", x.mark(0, 3), -2);
        Check.due("mark(-1, 2)", x.mark(-1, 2), -2);
        Check.due("flue(0, 0)", x.flue(0, 0), 5);
        Check.due("flue(1, 1)", x.flue(1, 1), 15);
        Check.due("flue(1, 2)", x.flue(1, 2), 1);
        Check.due("flue(2, 2)", x.flue(2, 2), -2);
        Check.due("flue(0, 3)", x.flue(0, 3), -2);
        x.clear(1);
        Check.due("flue(1, 2) taken down", x.flue(1, 2), 0);
        Check.due("flue(0, 2) stands", x.flue(0, 2), 1);
        x.undo();
        Check.due("flue(1, 2) stands again", x.flue(1, 2), 1);
    }

    private static void lookersAndWays(HassockRoof x) {
        Check.due("looker(1, 0)", x.looker(1, 0), 1);
        Check.due("looker(0, 1)", x.looker(0, 1), 0);
        Check.due("looker(1, 1)", x.looker(1, 1), 1);
        Check.due("looker(2, 0)", x.looker(2, 0), -2);
        Check.due("looker(0, 2)", x.looker(0, 2), -2);
        Check.due("ways(0)", x.ways(0), 2);
        Check.due("ways(1)", x.ways(1), 5);
        Check.due("ways(2)", x.ways(2), 2);
        Check.due("ways(3)", x.ways(3), -2);
        Check.due("ways(-1)", x.ways(-1), -2);
    }

    private static void counts(HassockRoof x) {
        int[] want = {3, 0, 5, 3, 3, 2, 2, 2, 0, 13, 0, 0};
        for (int what = 0; what < want.length; what++) {
            Check.due("count(" + what + ")", x.count(what), want[what]);
        }
        Check.due("count(12)", x.count(12), -1);
        Check.due("count(-1)", x.count(-1), -1);
        x.clear(0);
        x.swap(0, 1, 0);
        x.feed(0, 0, 0, 0, 0);
        x.row(3, 0, 0);
        Check.due("acts", x.count(8), 2);
        Check.due("flues told", x.count(5), 2);
        Check.due("bytes", x.count(10), 20);
        Check.due("slots", x.count(11), 1);
    }
}

import java.util.function.Supplier;

/** Promises 11 to 17 and 40 to 44 at their edges: nothing to see, all seen, lines that just miss. */
final class EdgeSightTest {
    public static void main(String[] args) {
        onTheLineBetween();
        beyondTheEnds();
        besideTheLine();
        theFirstThatHides();
        allIsSeen();
        noPlaces();
        noMarks();
        nothingIsSeen();
        bestOfSeveral();
        worthOfNothing();
        lotOfOne();
        lotOfSix();
        lotOfFive();
        lotWithoutHope();
        sharesOfOneMark();
        sharesInLowestTerms();
        setsOfPlaces();
        watchOfAll();
        watchLeavesOutWhatIsLost();
        watchTheLeastSet();
        Check.finish();
    }

    /** Whether a FLUE hides a MARK, from one end of a line and from the other. */
    private static void hidden(int[] one, int[] other, int fx, int fy, boolean isHidden) {
        int[][] ends = {one, other, one};
        for (int i = 0; i < 2; i++) {
            String text = Check.BARE + "place " + ends[i][0] + " " + ends[i][1] + ";mark " + ends[i + 1][0] + " "
                    + ends[i + 1][1] + " worth 9;flue " + fx + " " + fy + ";";
            HassockRoof x = Check.told(text);
            int seen = isHidden ? 0 : 1;
            Check.due("sees(0) of " + text, x.sees(0), seen);
            Runs.run(x, "from(0) -> " + seen, "hides(0, 0) -> " + (isHidden ? 0 : -1), "worth(0) -> " + 9 * seen,
                    "blind() -> " + (1 - seen), "lost() -> " + (1 - seen), "clear(0) -> 1", "sees(0) -> 1",
                    "hides(0, 0) -> -1", "blind() -> 0", "lost() -> 0");
        }
    }

    private static int[] at(int x, int y) {
        return new int[] {x, y};
    }

    private static void onTheLineBetween() {
        hidden(at(0, 0), at(30, 30), 1, 1, true);
        hidden(at(0, 0), at(30, 30), 29, 29, true);
        hidden(at(0, 30), at(30, 0), 1, 29, true);
        hidden(at(0, 30), at(30, 0), 29, 1, true);
        hidden(at(0, 0), at(30, 0), 1, 0, true);
        hidden(at(0, 30), at(30, 30), 29, 30, true);
        hidden(at(30, 0), at(30, 30), 30, 1, true);
        hidden(at(0, 0), at(0, 30), 0, 29, true);
        hidden(at(0, 0), at(30, 15), 2, 1, true);
        hidden(at(0, 0), at(30, 15), 28, 14, true);
        hidden(at(0, 30), at(10, 0), 1, 27, true);
        hidden(at(10, 10), at(12, 14), 11, 12, true);
    }

    private static void beyondTheEnds() {
        hidden(at(1, 1), at(29, 29), 0, 0, false);
        hidden(at(1, 1), at(29, 29), 30, 30, false);
        hidden(at(10, 10), at(20, 10), 9, 10, false);
        hidden(at(10, 10), at(20, 10), 21, 10, false);
        hidden(at(10, 10), at(10, 20), 10, 9, false);
        hidden(at(10, 10), at(10, 20), 10, 21, false);
        hidden(at(10, 10), at(12, 14), 9, 8, false);
        hidden(at(10, 10), at(12, 14), 13, 16, false);
        hidden(at(0, 29), at(0, 30), 0, 28, false);
        hidden(at(0, 1), at(1, 0), 2, 2, false);
    }

    private static void besideTheLine() {
        hidden(at(0, 0), at(30, 30), 15, 14, false);
        hidden(at(0, 0), at(30, 30), 14, 15, false);
        hidden(at(0, 30), at(30, 0), 16, 15, false);
        hidden(at(0, 0), at(30, 15), 15, 7, false);
        hidden(at(0, 0), at(30, 15), 15, 8, false);
        hidden(at(0, 0), at(30, 0), 15, 1, false);
        hidden(at(0, 0), at(0, 30), 1, 15, false);
        hidden(at(0, 0), at(30, 29), 15, 15, false);
        hidden(at(0, 0), at(30, 29), 29, 28, false);
        hidden(at(0, 0), at(1, 30), 0, 15, false);
        hidden(at(0, 0), at(1, 30), 1, 29, false);
        // As far along, mirrored.
        hidden(at(0, 10), at(20, 10), 10, 0, false);
        hidden(at(5, 5), at(15, 15), 10, 5, false);
        hidden(at(5, 5), at(15, 15), 5, 15, false);
    }

    private static void theFirstThatHides() {
        HassockRoof x = Check.told(Cells.of(1, 0, 0));
        Runs.run(x, "hides(0, 0) -> -1", "hides(0, 1) -> 0", "hides(0, 6) -> 0", "hides(5, 6) -> 5", "hides(5, 0) -> 0",
                "hides(5, 4) -> 4", "hides(2, 4) -> 2", "clear(2) -> 1", "hides(2, 4) -> 3", "clear(3) -> 1",
                "hides(2, 4) -> -1", "hides(2, 5) -> 4", "undo() -> 1", "hides(2, 4) -> 3", "anew() -> 1",
                "hides(2, 4) -> 2");
    }

    private static final Supplier<HassockRoof> OPEN = () -> {
        StringBuilder text = new StringBuilder(Check.BARE);
        for (int i = 0; i < 6; i++) {
            text.append("place ").append(i).append(" 0;");
        }
        for (int i = 0; i < 7; i++) {
            text.append("mark ").append(i).append(" 30 worth 99;");
        }
        return Check.told(text.toString());
    };

    private static void allIsSeen() {
        HassockRoof x = OPEN.get();
        for (int p = 0; p < 6; p++) {
            Runs.run(x, "sees(" + p + ") -> 127", "worth(" + p + ") -> 693", "hides(" + p + ", 6) -> -1");
        }
        for (int m = 0; m < 7; m++) {
            Runs.run(x, "from(" + m + ") -> 63");
        }
        Runs.run(x, "blind() -> 0", "lost() -> 0", "best() -> 0", "all(63) -> 693", "all(32) -> 693", "all(0) -> 0",
                "watch() -> 1", "watches() -> 1", "share(5, 0) -> 231", "share(5, 1) -> 2");
    }

    private static void noPlaces() {
        StringBuilder text = new StringBuilder(Check.BARE);
        for (int i = 0; i < 7; i++) {
            text.append("mark ").append(i).append(" 30 worth 99;");
        }
        HassockRoof x = Check.told(text.toString());
        Runs.run(x, "blind() -> 0", "lost() -> 127", "best() -> -1", "from(6) -> 0", "watch() -> 0", "watches() -> 0",
                "all(0) -> 0", "all(1) -> -2", "all(-1) -> -2", "sees(0) -> -2", "share(0, 0) -> -2");
    }

    private static void noMarks() {
        HassockRoof x = Check.told(Check.BARE + "place 0 0;place 1 0;place 2 0;place 3 0;place 4 0;place 5 0;flue 9 9;");
        Runs.run(x, "blind() -> 63", "lost() -> 0", "best() -> 0", "sees(5) -> 0", "worth(5) -> 0", "watch() -> 0",
                "watches() -> 0", "all(63) -> 0", "all(64) -> -2", "share(5, 0) -> 0", "share(5, 1) -> 1",
                "from(0) -> -2", "hides(0, 0) -> -2");
    }

    private static void nothingIsSeen() {
        HassockRoof x = Check.told(Check.BARE + "place 0 0;place 1 0;place 2 0;mark 9 0 worth 99;flue 8 0;");
        Runs.run(x, "blind() -> 7", "lost() -> 1", "best() -> 0", "watch() -> 0", "watches() -> 0", "all(7) -> 0",
                "hides(2, 0) -> 0", "clear(0) -> 1", "blind() -> 0", "lost() -> 0", "watch() -> 1", "watches() -> 1",
                "all(7) -> 99");
    }

    private static void bestOfSeveral() {
        HassockRoof x = Check.told(Cells.of(1, 0, 0));
        Runs.run(x, "best() -> 5", "rate(2, 60) -> 30", "best() -> 2", "rate(2, 61) -> 60", "best() -> 2",
                "rate(2, 59) -> 61", "best() -> 5", "rate(0, 60) -> 10", "best() -> 0");
        for (int m = 0; m < 6; m++) {
            x.rate(m, 0);
        }
        Runs.run(x, "best() -> 0", "rate(4, 1) -> 0", "best() -> 4");
    }

    /** A MARK of worth 0 is seen all the same. */
    private static void worthOfNothing() {
        HassockRoof x = Check.told(Cells.worth(1, 0, 0, new int[7]));
        Runs.run(x, "blind() -> 0", "lost() -> 64", "sees(3) -> 8", "worth(3) -> 0", "from(3) -> 8", "watch() -> 6",
                "all(63) -> 0", "share(3, 0) -> 0", "share(3, 1) -> 1", "best() -> 0");
    }

    private static void lotOfOne() {
        HassockRoof x = Check.told(BoundsTest.ONE);
        Runs.run(x, "lot(0, 0, 0) -> 1", "lot(0, 0, 1) -> 1");
        x = Check.told(Cells.of(1, 0, 0, "at 0 hopes 3"));
        Runs.run(x, "lot(0, 3, 0) -> 1", "lot(0, 3, 1) -> 1", "lot(0, 0, 0) -> 0", "lot(0, 0, 1) -> 1",
                "lot(0, 5, 0) -> 0", "lot(0, 5, 1) -> 1");
    }

    /** All hope for what is seen from each place: the first to come takes the first. */
    private static void lotOfSix() {
        StringBuilder text = new StringBuilder(Check.BARE + "mark 9 9 worth 1;");
        for (int i = 0; i < 6; i++) {
            text.append("place ").append(i).append(" 0;looker at ").append(i).append(" hopes 0;");
        }
        HassockRoof x = Check.told(text.toString());
        for (int l = 0; l < 6; l++) {
            for (int p = 0; p < 6; p++) {
                Runs.run(x, "lot(" + l + ", " + p + ", 0) -> 1", "lot(" + l + ", " + p + ", 1) -> 6");
            }
        }
        // Each hopes for another: each has his own for sure.
        x = Check.told(Cells.of(1, 0, 0, Cells.six(1)));
        for (int l = 0; l < 6; l++) {
            int own = (l + 1) % 6;
            Runs.run(x, "lot(" + l + ", " + own + ", 0) -> 1", "lot(" + l + ", " + own + ", 1) -> 1",
                    "lot(" + l + ", " + l + ", 0) -> 0", "lot(" + l + ", " + l + ", 1) -> 1");
        }
    }

    /** Five hope for what is seen from nowhere: the first to come takes most worth, the last place stays free. */
    private static void lotOfFive() {
        HassockRoof x = Check.told(Cells.of(1, 0, 0, "at 0 hopes 6", "at 1 hopes 6", "at 2 hopes 6", "at 3 hopes 6",
                "at 4 hopes 6"));
        for (int l = 0; l < 5; l++) {
            Runs.run(x, "lot(" + l + ", 0, 0) -> 0", "lot(" + l + ", 0, 1) -> 1", "lot(" + l + ", 1, 0) -> 1",
                    "lot(" + l + ", 1, 1) -> 5", "lot(" + l + ", 5, 0) -> 1", "lot(" + l + ", 5, 1) -> 5");
        }
    }

    /** One hopes for the place that the other takes for its worth: by one order of two he is too late. */
    private static void lotWithoutHope() {
        HassockRoof x = Check.told(Cells.of(1, 0, 0, "at 0 hopes 6", "at 1 hopes 5"));
        Runs.run(x, "lot(0, 5, 0) -> 1", "lot(0, 5, 1) -> 2", "lot(0, 4, 0) -> 1", "lot(0, 4, 1) -> 2",
                "lot(1, 5, 0) -> 1", "lot(1, 5, 1) -> 2", "lot(1, 4, 0) -> 1", "lot(1, 4, 1) -> 2", "lot(1, 3, 0) -> 0");
        // Of as much worth the first one.
        x = Check.told(Cells.worth(1, 0, 0, new int[] {5, 9, 9, 9, 1, 1, 1}, "at 0 hopes 6"));
        Runs.run(x, "lot(0, 1, 0) -> 1", "lot(0, 2, 0) -> 0", "lot(0, 3, 0) -> 0", "clear(2) -> 1", "lot(0, 2, 0) -> 1",
                "lot(0, 3, 0) -> 0");
    }

    /** One mark seen from n places: each has an nth of it. */
    private static void sharesOfOneMark() {
        int[][] of99 = {{99, 1}, {99, 2}, {33, 1}, {99, 4}, {99, 5}, {33, 2}};
        StringBuilder text = new StringBuilder(Check.BARE + "mark 9 9 worth 1;");
        for (int n = 1; n <= 6; n++) {
            text.append("place ").append(n).append(" 0;");
            HassockRoof x = Check.told(text.toString());
            for (int p = 0; p < n; p++) {
                Runs.run(x, "share(" + p + ", 0) -> 1", "share(" + p + ", 1) -> " + n);
            }
            Runs.run(x, "rate(0, 99) -> 1", "share(0, 0) -> " + of99[n - 1][0], "share(0, 1) -> " + of99[n - 1][1],
                    "rate(0, 0) -> 99", "share(0, 0) -> 0", "share(0, 1) -> 1");
        }
    }

    private static void sharesInLowestTerms() {
        HassockRoof x = Check.told(Cells.worth(1, 0, 0, new int[] {1, 2, 3, 4, 5, 6, 7}));
        for (int p = 0; p < 6; p++) {
            Runs.run(x, "share(" + p + ", 0) -> " + (p + 1), "share(" + p + ", 1) -> 1");
        }
        // One cell of 0, 1, 2: a third of 1 + 2 + 3; then of 0 to 3: a quarter of 10.
        Runs.run(x, "clear(0) -> 1", "clear(1) -> 1", "share(1, 0) -> 2", "share(1, 1) -> 1", "clear(2) -> 1",
                "share(3, 0) -> 5", "share(3, 1) -> 2", "share(4, 0) -> 5", "share(4, 1) -> 1", "clear(5) -> 1",
                "share(5, 0) -> 13", "share(5, 1) -> 1");
    }

    private static void setsOfPlaces() {
        HassockRoof x = Check.told(Cells.of(1, 0, 0));
        for (int set = 0; set < 64; set++) {
            int sum = 0;
            for (int p = 0; p < 6; p++) {
                sum += (set >> p & 1) * Cells.WORTH[p];
            }
            Runs.run(x, "all(" + set + ") -> " + sum);
        }
        Runs.run(x, "all(64) -> -2", "all(127) -> -2", "all(-64) -> -2", "all(-2147483648) -> -2",
                "all(2147483647) -> -2");
    }

    private static void watchOfAll() {
        HassockRoof x = Check.told(Cells.of(1, 0, 0));
        Runs.run(x, "watch() -> 6", "watches() -> 63", "clear(5) -> 1", "watch() -> 6", "clear(4) -> 1", "watch() -> 5",
                "watches() -> 31", "clear(0) -> 1", "watch() -> 4", "watches() -> 29");
    }

    private static void watchLeavesOutWhatIsLost() {
        HassockRoof x = Check.told(Check.BARE + "place 0 0;place 9 0;mark 1 0 worth 5;mark 7 0 worth 5;flue 4 0;"
                + "flue 6 0;mark 5 0 worth 5;");
        Runs.run(x, "lost() -> 4", "watch() -> 2", "watches() -> 3", "all(3) -> 10", "clear(0) -> 1", "lost() -> 0",
                "watch() -> 2", "watches() -> 3", "clear(1) -> 1", "watch() -> 1", "watches() -> 1");
    }

    /** Of sets of as few places the least number: 6 (places 1, 2), not 9 (places 0, 3). */
    private static void watchTheLeastSet() {
        HassockRoof x = Check.told(Cells.of(1, 0, 0));
        // Cells 0 and 1, 2 and 3, 4 and 5 are one each: the first of each.
        Runs.run(x, "clear(0) -> 1", "clear(2) -> 1", "clear(4) -> 1", "watch() -> 3", "watches() -> 21");
        // Sets of two that see all are 6, 9 and 10.
        x = Check.told(Check.BARE + "place 0 2;place 4 2;place 1 3;place 4 3;mark 4 0 worth 1;mark 2 4 worth 1;"
                + "mark 1 0 worth 1;mark 2 2 worth 1;flue 1 1;flue 1 2;flue 0 4;flue 2 1;flue 3 1;flue 3 2;");
        Runs.run(x, "sees(0) -> 6", "sees(1) -> 7", "sees(2) -> 10", "sees(3) -> 11", "watch() -> 2", "watches() -> 6");
    }
}

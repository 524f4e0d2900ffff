import java.util.Arrays;
import java.util.function.Supplier;

/** Promises 32 to 39 at their edges: no lookers and six, rows that are none, shifts that are none. */
final class EdgeRowsTest {
    private static final String[] PATH = {"way 0 1;", "way 1 2;", "way 2 3;", "way 3 4;", "way 4 5;"};

    public static void main(String[] args) {
        rosterOfAll();
        rosterOfOneGood();
        rosterOfNone();
        putTheLeastRow();
        rostersAreCounted();
        fairForEachNumber();
        noLookers();
        noPlaces();
        goalHasASlot();
        goalIsARow();
        goalHasPlaces();
        goalHasNoneTwice();
        goalOfAllWidths();
        shiftsOfNone();
        shiftsNever();
        shiftsAllTheWay();
        firstByTheLeastRow();
        reachOfNoWays();
        reachOfNoFreePlace();
        reachOnARing();
        actsAside();
        waysToldTwice();
        Check.finish();
    }

    private static void rosterOfAll() {
        HassockRoof x = Check.told(Cells.of(1, 0, 0, Cells.six(1)));
        // Each asked first, on an object of its own, and behind the others.
        Runs.run(Check.told(Cells.of(1, 0, 0, Cells.six(1))), "put(0) -> 1");
        Runs.run(Check.told(Cells.of(1, 0, 0, Cells.six(1))), "rosters() -> 1");
        Runs.run(x, "roster() -> 6", "rosters() -> 1");
        for (int l = 0; l < 6; l++) {
            Runs.run(x, "put(" + l + ") -> " + (l + 1) % 6);
        }
        Runs.run(x, "put(6) -> -2", "put(-1) -> -2");
    }

    /** All hope for one mark seen from one place: by each row of six one of them sees it. */
    private static void rosterOfOneGood() {
        HassockRoof x = Check.told(Cells.of(1, 0, 0, "at 0 hopes 3", "at 1 hopes 3", "at 2 hopes 3", "at 3 hopes 3",
                "at 4 hopes 3", "at 5 hopes 3"));
        Runs.run(x, "roster() -> 1", "rosters() -> 720", "put(0) -> 0", "put(3) -> 3", "put(5) -> 5");
        // Of five: place 3 is left out by a sixth of the rows.
        x = Check.told(Cells.of(1, 0, 0, "at 0 hopes 3", "at 1 hopes 3", "at 2 hopes 3", "at 3 hopes 3", "at 4 hopes 3"));
        Runs.run(x, "roster() -> 1", "rosters() -> 600", "put(4) -> 4");
    }

    private static void rosterOfNone() {
        HassockRoof x = Check.told(Cells.of(1, 0, 0, "at 5 hopes 6", "at 4 hopes 6"));
        Runs.run(x, "roster() -> 0", "rosters() -> 30", "put(0) -> 0", "put(1) -> 1", "clear(5) -> 1", "roster() -> 1",
                "rosters() -> 10", "put(0) -> 0", "put(1) -> 5");
    }

    private static void putTheLeastRow() {
        HassockRoof x = Check.told(Cells.of(1, 0, 0, "at 0 hopes 3", "at 1 hopes 3"));
        Runs.run(x, "roster() -> 1", "rosters() -> 10", "put(0) -> 0", "put(1) -> 3");
        x = Check.told(Cells.of(1, 0, 0, "at 0 hopes 0", "at 1 hopes 0"));
        Runs.run(x, "rosters() -> 10", "put(0) -> 0", "put(1) -> 1");
        x = Check.told(Cells.of(1, 0, 0, "at 5 hopes 5", "at 4 hopes 6", "at 3 hopes 0"));
        Runs.run(x, "roster() -> 2", "rosters() -> 4", "put(0) -> 5", "put(1) -> 1", "put(2) -> 0");
    }

    /** One hopes for what n places see: n rows. */
    private static void rostersAreCounted() {
        HassockRoof x = Check.told(Cells.of(1, 0, 0, "at 0 hopes 0"));
        for (int flue = 0; flue < 5; flue++) {
            Runs.run(x, "rosters() -> " + (flue + 1), "put(0) -> 0", "clear(" + flue + ") -> 1");
        }
        Runs.run(x, "rosters() -> 6", "roster() -> 1");
    }

    /** The worst off of n lookers has at best the nth best place. */
    private static void fairForEachNumber() {
        String[] lookers = new String[0];
        Runs.run(Check.told(Cells.of(1, 0, 0, lookers)), "fair() -> -1");
        for (int n = 1; n <= 6; n++) {
            lookers = Arrays.copyOf(Cells.six(0), n);
            Runs.run(Check.told(Cells.of(1, 0, 0, lookers)), "fair() -> " + Cells.WORTH[6 - n]);
        }
        HassockRoof x = Check.told(Cells.worth(1, 0, 0, new int[] {0, 7, 7, 7, 0, 0, 0}, "at 0 hopes 0", "at 4 hopes 0",
                "at 5 hopes 0"));
        Runs.run(x, "fair() -> 7", "rate(2, 0) -> 7", "fair() -> 0", "rate(4, 8) -> 0", "fair() -> 7", "rate(4, 6) -> 8",
                "fair() -> 6");
    }

    private static void noLookers() {
        HassockRoof x = Check.told(Cells.of(1, 0, 0));
        Runs.run(x, "roster() -> 0", "rosters() -> 1", "fair() -> -1", "put(0) -> -2", "reach() -> 1", "far() -> 0",
                "shifts(0) -> -6", "first(0) -> -6", "row(0, 3, 0) -> 0", "shifts(0) -> 0", "first(0) -> -1",
                "row(0, 3, 1) -> 0", "shifts(0) -> -2", "first(0) -> -2");
    }

    private static void noPlaces() {
        HassockRoof x = Check.told(Check.BARE);
        Runs.run(x, "roster() -> 0", "rosters() -> 1", "fair() -> -1", "reach() -> 1", "far() -> 0", "row(0, 0, 0) -> 0",
                "shifts(0) -> 0", "first(0) -> -1");
    }

    private static String onPath(String... lookers) {
        return Cells.of(1, 0, 0).replace("mark 18 0", String.join("", PATH) + "mark 18 0")
                + (lookers.length == 0 ? "" : "looker " + String.join(";looker ", lookers) + ";");
    }

    private static final Supplier<HassockRoof> TWO = Runs.of(onPath("at 0 hopes 0", "at 2 hopes 0"), "row(0, 0, 2)",
            "write(0, 0, 1)", "row(1, 0, 2)", "write(1, 0, 1)", "row(2, 0, 2)", "write(2, 0, 1)", "row(3, 0, 2)",
            "write(3, 0, 1)", "write(0, 1, 3)", "write(1, 1, 3)", "write(2, 1, 3)", "write(3, 1, 3)");

    private static void goalHasASlot() {
        Runs.bounds(TWO, "shifts(#)", 0, 3, -2);
        Runs.bounds(TWO, "first(#)", 0, 3, -2);
        Supplier<HassockRoof> nothing = Runs.of(onPath("at 0 hopes 0", "at 2 hopes 0"));
        Runs.refused(nothing, "shifts(0) -> -6", "shifts(3) -> -6", "first(0) -> -6", "first(3) -> -6", "shifts(4) -> -2",
                "first(-1) -> -2");
        Runs.run(TWO.get(), "shifts(0) -> 2", "first(0) -> 0");
    }

    /** What shifts() and first() answer of a row, of each width that can hold it. */
    private static void goal(String text, int shifts, int first, long... numbers) {
        for (int width = 0; width < 4; width++) {
            HassockRoof x = Check.told(text);
            Check.fill(x, 2, width, numbers);
            Runs.run(x, "shifts(2) -> " + shifts, "first(2) -> " + first, "count(11) -> 1");
        }
    }

    /** "they are not as many as LOOKERS". */
    private static void goalIsARow() {
        String two = onPath("at 0 hopes 0", "at 2 hopes 0");
        goal(two, 0, -1, 0, 2);
        goal(two, -2, -2);
        goal(two, -2, -2, 0);
        goal(two, -2, -2, 0, 2, 1);
        goal(two, -2, -2, new long[60]);
        goal(onPath(Cells.six(0)), 0, -1, 0, 1, 2, 3, 4, 5);
        goal(onPath(Cells.six(0)), -2, -2, 0, 1, 2, 3, 4);
        goal(onPath(Cells.six(0)), -2, -2, 0, 1, 2, 3, 4, 5, 6);
        goal(onPath(), 0, -1);
        goal(onPath(), -2, -2, 0);
    }

    /** "a number is none such". */
    private static void goalHasPlaces() {
        String two = onPath("at 0 hopes 0", "at 2 hopes 0");
        goal(two, 3, 1, 0, 5);
        for (long none : new long[] {6, 7, -1, -6, 100, -128, 127}) {
            goal(two, -2, -2, 0, none);
            goal(two, -2, -2, none, 2);
            goal(two, -2, -2, none, none);
        }
        // Fewer places than six: their number is none.
        goal(Check.SMALL, -2, -2, 0, 3);
        goal(Check.SMALL, 1, 1, 0, 2);
    }

    private static void goalHasNoneTwice() {
        for (int p = 0; p < 6; p++) {
            goal(onPath("at 0 hopes 0", "at 2 hopes 0"), -2, -2, p, p);
        }
        goal(onPath("at 0 hopes 0", "at 2 hopes 0", "at 4 hopes 0"), -2, -2, 0, 2, 0);
        goal(onPath("at 0 hopes 0", "at 2 hopes 0", "at 4 hopes 0"), -2, -2, 5, 4, 4);
        // One that is twice and one that is none besides.
        goal(onPath("at 0 hopes 0", "at 2 hopes 0", "at 4 hopes 0"), -2, -2, 6, 6, 0);
    }

    /** Numbers are cut when they are written: 2 to the width's bits and 5 is place 5. */
    private static void goalOfAllWidths() {
        for (int width = 0; width < 3; width++) {
            HassockRoof x = Check.told(onPath("at 0 hopes 0"));
            Check.fill(x, 0, width, (1L << (8 << width)) + 5);
            Runs.run(x, "shifts(0) -> 5", "write(0, 0, " + ((1L << (8 << width) - 1) + 5) + ") -> 0", "shifts(0) -> -2");
        }
        HassockRoof x = Check.told(onPath("at 0 hopes 0"));
        Check.fill(x, 0, 3, (1L << 32) + 5);
        Runs.run(x, "shifts(0) -> -2", "first(0) -> -2");
    }

    private static void shiftsOfNone() {
        for (int n = 1; n <= 6; n++) {
            String[] lookers = Arrays.copyOf(Cells.six(0), n);
            long[] told = {0, 1, 2, 3, 4, 5};
            goal(onPath(lookers), 0, -1, Arrays.copyOf(told, n));
            goal(Cells.of(1, 0, 0, lookers), 0, -1, Arrays.copyOf(told, n));
        }
    }

    private static void shiftsNever() {
        // Two on a path can't pass each other, none moves without ways, none where no place is free.
        goal(onPath("at 0 hopes 0", "at 2 hopes 0"), -1, -1, 2, 0);
        goal(onPath("at 0 hopes 0", "at 2 hopes 0"), -1, -1, 5, 4);
        goal(Cells.of(1, 0, 0, "at 0 hopes 0"), -1, -1, 1);
        goal(onPath(Cells.six(0)), -1, -1, 1, 0, 2, 3, 4, 5);
    }

    private static void shiftsAllTheWay() {
        goal(onPath("at 0 hopes 0"), 5, 0, 5);
        goal(onPath("at 5 hopes 0"), 5, 0, 0);
        goal(onPath("at 1 hopes 0"), 1, 0, 0);
        goal(onPath("at 4 hopes 0"), 1, 0, 5);
        goal(onPath("at 0 hopes 0", "at 1 hopes 0"), 8, 1, 4, 5);
        goal(onPath("at 0 hopes 0", "at 1 hopes 0", "at 2 hopes 0", "at 3 hopes 0", "at 4 hopes 0"), 5, 4, 1, 2, 3, 4, 5);
        Runs.run(Check.told(onPath("at 0 hopes 0")), "reach() -> 6", "far() -> 5");
        Runs.run(Check.told(onPath("at 2 hopes 0")), "reach() -> 6", "far() -> 3");
        Runs.run(Check.told(onPath("at 2 hopes 0")), "far() -> 3", "row(0, 0, 1) -> 0", "shifts(0) -> 2", "far() -> 3",
                "reach() -> 6");
        Runs.run(Check.told(onPath("at 0 hopes 0", "at 1 hopes 0")), "reach() -> 15", "far() -> 8");
        Runs.run(Check.told(onPath("at 0 hopes 0", "at 1 hopes 0", "at 2 hopes 0", "at 3 hopes 0", "at 4 hopes 0")),
                "reach() -> 6", "far() -> 5");
    }

    private static void firstByTheLeastRow() {
        // Either may go first: the least row of lookers begins with 0.
        goal(onPath("at 0 hopes 0", "at 5 hopes 0"), 2, 0, 1, 4);
        goal(onPath("at 5 hopes 0", "at 0 hopes 0"), 2, 0, 4, 1);
        // The other one alone goes.
        goal(onPath("at 0 hopes 0", "at 5 hopes 0"), 1, 1, 0, 4);
        // The other one must go first.
        goal(onPath("at 0 hopes 0", "at 1 hopes 0"), 2, 1, 1, 2);
        goal(onPath("at 1 hopes 0", "at 0 hopes 0"), 2, 0, 2, 1);
    }

    private static void reachOfNoWays() {
        for (int n = 0; n <= 6; n++) {
            HassockRoof x = Check.told(Cells.of(1, 0, 0, Arrays.copyOf(Cells.six(0), n)));
            Runs.run(x, "reach() -> 1", "far() -> 0", "ways(0) -> 0", "ways(5) -> 0");
        }
    }

    private static void reachOfNoFreePlace() {
        Runs.run(Check.told(onPath(Cells.six(0))), "reach() -> 1", "far() -> 0");
    }

    /** Five on a ring of six: the free place goes round, 30 rows in a ring of rows. */
    private static void reachOnARing() {
        String ring = onPath("at 0 hopes 0", "at 1 hopes 0", "at 2 hopes 0", "at 3 hopes 0", "at 4 hopes 0") + "way 5 0;";
        Runs.run(Check.told(ring), "reach() -> 30", "far() -> 15");
        // All ways from one place and one more: every row can be come to.
        String star = Cells.of(1, 0, 0, "at 1 hopes 0", "at 2 hopes 0", "at 3 hopes 0", "at 4 hopes 0", "at 5 hopes 0")
                + "way 0 1;way 0 2;way 0 3;way 0 4;way 0 5;";
        Runs.run(Check.told(star), "reach() -> 6", "far() -> 1", "ways(0) -> 62", "ways(5) -> 1");
        Runs.run(Check.told(star + "way 1 2;way 3 4;way 2 3;way 4 5;way 5 1;"), "reach() -> 720");
    }

    /** "from where they are told; acts aside". */
    private static void actsAside() {
        HassockRoof x = TWO.get();
        Runs.run(x, "reach() -> 15", "far() -> 7", "swap(0, 1, 0) -> 3", "clear(0) -> 1", "shifts(0) -> 2", "first(0) -> 0",
                "reach() -> 15", "far() -> 7");
    }

    private static void waysToldTwice() {
        HassockRoof x = Check.told(onPath("at 0 hopes 0") + "way 1 0;way 0 1;way 5 4;way 4 5;way 2 3;");
        Runs.run(x, "count(6) -> 10", "ways(0) -> 2", "ways(1) -> 5", "ways(5) -> 16", "reach() -> 6", "far() -> 5");
    }
}

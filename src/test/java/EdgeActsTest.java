import java.util.Arrays;
import java.util.List;
import java.util.function.Supplier;

/** Promises 56 to 59 and 62 to 65 at their edges: 30 acts, none, worth of 0 and 99, three IMAGES. */
final class EdgeActsTest {
    private static final String SIX = Cells.of(3, 3, 0, Cells.six(0));

    public static void main(String[] args) {
        thirtySwaps();
        thirtyClears();
        refusedBehindThirty();
        askedAheadOfThirty();
        swapInTheFirstYearAndTheLastButOne();
        swapAnswersTheLastYear();
        swapsInTheirOrder();
        clearOfOneThatIsDown();
        clearAllFlues();
        undoOneByOne();
        undoOfNothing();
        anewOfThirtyAndOfNone();
        rateNothingAndMost();
        rateBehindActs();
        rateStays();
        countsOfTheMost();
        countOfOthers();
        imagesAreThree();
        imagesStayBehindRefusals();
        imageOfNothing();
        imageKeepsThirtyActs();
        imageInPlaceOfAnother();
        imageStaysAsItWas();
        backLeavesTheRest();
        theCallOf512();
        Check.finish();
    }

    private static String[] many(String call, int n) {
        String[] calls = new String[n];
        Arrays.fill(calls, call);
        return calls;
    }

    private static void thirtySwaps() {
        HassockRoof x = Check.told(SIX);
        for (int i = 1; i <= 30; i++) {
            // All see what they hope for but the two, who go back in the year behind it.
            Runs.run(x, "swap(0, 5, 2) -> 0", "count(8) -> " + i,
                    "at(0, 2) -> " + (i % 2 == 1 ? 5 : 0));
        }
        Runs.run(x, "swap(0, 5, 2) -> -5", "count(8) -> 30", "at(0, 2) -> 0");
    }

    private static void thirtyClears() {
        HassockRoof x = Check.told(SIX);
        for (int i = 0; i < 30; i++) {
            Runs.run(x, "clear(" + i % 5 + ") -> " + (i < 5 ? 1 : 0), "count(8) -> " + (i + 1));
        }
        Runs.run(x, "clear(5) -> -5", "flue(5, 2) -> 1", "clear(0) -> -5", "flue(0, 2) -> 0", "count(8) -> 30");
    }

    private static void refusedBehindThirty() {
        Supplier<HassockRoof> swapped = Runs.of(SIX, many("swap(0, 1, 0)", 30));
        Runs.refused(swapped, "swap(2, 3, 0) -> -5", "swap(0, 1, 2) -> -5", "clear(0) -> -5", "clear(5) -> -5",
                "rate(0, 5) -> -5");
        Supplier<HassockRoof> cleared = Runs.of(SIX, many("clear(2)", 30));
        Runs.refused(cleared, "swap(2, 3, 0) -> -5", "clear(0) -> -5", "clear(2) -> -5", "rate(6, 5) -> -5");
        // Of 29 one more is taken.
        for (String call : List.of("swap(2, 3, 0)", "clear(0)")) {
            HassockRoof x = Runs.of(SIX, many("clear(2)", 29)).get();
            Check.holds(call + " as the 30th", Runs.call(x, call) >= 0);
            Runs.run(x, "count(8) -> 30", "clear(1) -> -5", "undo() -> 29", "clear(1) -> 1", "count(8) -> 30");
        }
    }

    /** "-2 is asked ahead of -5". */
    private static void askedAheadOfThirty() {
        Supplier<HassockRoof> made = Runs.of(SIX, many("clear(2)", 30));
        Runs.refused(made, "swap(0, 0, 0) -> -2", "swap(0, 6, 0) -> -2", "swap(-1, 0, 0) -> -2", "swap(0, 1, 3) -> -2",
                "swap(0, 1, -1) -> -2", "clear(6) -> -2", "clear(-1) -> -2", "rate(7, 0) -> -2", "rate(-1, 0) -> -2",
                "rate(0, 100) -> -2", "rate(0, -1) -> -2");
    }

    private static void swapInTheFirstYearAndTheLastButOne() {
        for (int years = 1; years <= 12; years++) {
            HassockRoof x = Check.told(Cells.of(years, 2, 0, "at 0 hopes 0"));
            Runs.run(x, "swap(0, 0, 0) -> -2");
            x = Check.told(Cells.of(years, 0, 0, "at 0 hopes 0", "at 3 hopes 0"));
            int last = years - 1;
            Runs.run(x, "swap(0, 1, " + years + ") -> -2", "swap(0, 1, " + last + ") -> " + (3 + years) % 6,
                    "at(0, " + last + ") -> " + (3 + last) % 6, "at(1, " + last + ") -> " + last % 6,
                    "at(0, " + years + ") -> " + (3 + years) % 6, "at(0, 0) -> " + (last == 0 ? 3 : 0),
                    "swap(0, 1, 0) -> " + years % 6, "at(0, 0) -> " + (last == 0 ? 0 : 3), "swap(0, 1, -1) -> -2",
                    "count(8) -> 2");
        }
    }

    private static void swapAnswersTheLastYear() {
        HassockRoof x = Check.told(Cells.of(12, 0, 0, "at 0 hopes 0", "at 1 hopes 0"));
        Runs.run(x, "swap(0, 1, 0) -> 1", "at(0, 12) -> 1", "at(1, 12) -> 0", "swap(1, 0, 5) -> 1", "at(1, 12) -> 1",
                "looker(0, 0) -> 0", "looker(1, 0) -> 1");
    }

    /** Of one YEAR in the order of the acts, whenever those of other YEARS were done. */
    private static void swapsInTheirOrder() {
        HassockRoof x = Check.told(Cells.of(2, 3, 0, "at 0 hopes 1", "at 1 hopes 2", "at 2 hopes 0"));
        // In year 0: 0, 1, 2; by 0 1 then 1 2: 1, 2, 0, where all see what they hope for.
        Runs.run(x, "swap(0, 1, 0) -> 1", "swap(1, 2, 0) -> 2", "at(0, 0) -> 1", "at(1, 0) -> 2", "at(2, 0) -> 0",
                "glad(0) -> 7", "glad(2) -> 7", "anew() -> 2");
        // The other way round: 2, 0, 1, where none does; then they go round.
        Runs.run(x, "swap(1, 2, 0) -> 2", "swap(0, 1, 0) -> 1", "at(0, 0) -> 2", "at(1, 0) -> 0", "at(2, 0) -> 1",
                "glad(0) -> 0", "at(0, 1) -> 0", "at(0, 2) -> 1");
        // An act of year 0 behind one of year 1 is done ahead of it.
        x = Check.told(Cells.of(2, 0, 0, "at 0 hopes 0", "at 1 hopes 0", "at 2 hopes 0"));
        Runs.run(x, "swap(0, 1, 1) -> 3", "swap(1, 2, 0) -> 2", "at(0, 0) -> 0", "at(1, 0) -> 2", "at(0, 1) -> 3",
                "at(1, 1) -> 1", "at(0, 2) -> 4", "at(2, 2) -> 3");
    }

    private static void clearOfOneThatIsDown() {
        HassockRoof x = Check.told(SIX);
        Runs.run(x, "clear(0) -> 1", "clear(0) -> 0", "clear(0) -> 0", "count(8) -> 3", "undo() -> 2", "flue(0, 2) -> 0",
                "sees(0) -> 3", "undo() -> 1", "flue(0, 2) -> 0", "undo() -> 0", "flue(0, 2) -> 1", "sees(0) -> 1",
                "clear(0) -> 1");
    }

    private static void clearAllFlues() {
        HassockRoof x = Check.told(SIX);
        for (int f = 0; f < 6; f++) {
            Runs.run(x, "flue(" + f + ", 2) -> 1", "clear(" + f + ") -> 1", "flue(" + f + ", 2) -> 0", "count(5) -> 6");
        }
        Runs.run(x, "sees(0) -> 127", "sees(5) -> 127", "clear(6) -> -2", "flue(5, 0) -> 17", "anew() -> 6", "sees(0) -> 1");
    }

    private static void undoOneByOne() {
        HassockRoof x = Runs.of(SIX, many("swap(0, 1, 0)", 29)).get();
        Runs.run(x, "clear(5) -> 1");
        for (int i = 29; i >= 0; i--) {
            Runs.run(x, "undo() -> " + i, "at(0, 0) -> " + i % 2, "flue(5, 2) -> 1");
        }
        Runs.run(x, "undo() -> -5", "count(8) -> 0");
    }

    private static void undoOfNothing() {
        Runs.refused(Runs.of(SIX), "undo() -> -5");
        Runs.refused(Runs.of(SIX, "clear(0)", "undo()"), "undo() -> -5");
        Runs.refused(Runs.of(Check.BARE), "undo() -> -5", "anew() -> 0");
        Runs.refused(HassockRoof::new, "undo() -> -2", "anew() -> -2");
        // Worth set anew is no act, and not taken back.
        HassockRoof x = Check.told(SIX);
        Runs.run(x, "rate(0, 99) -> 10", "undo() -> -5", "anew() -> 0", "mark(0, 2) -> 99");
    }

    private static void anewOfThirtyAndOfNone() {
        HassockRoof x = Runs.of(SIX, many("swap(0, 1, 0)", 29)).get();
        Runs.run(x, "clear(3) -> 1", "anew() -> 30", "count(8) -> 0", "anew() -> 0", "flue(3, 2) -> 1", "at(0, 0) -> 0",
                "swap(0, 1, 0) -> 0", "count(8) -> 1", "anew() -> 1");
    }

    private static void rateNothingAndMost() {
        for (int m = 0; m < 7; m++) {
            HassockRoof x = Check.told(SIX);
            int was = Cells.WORTH[m];
            Runs.run(x, "rate(" + m + ", 0) -> " + was, "mark(" + m + ", 2) -> 0", "rate(" + m + ", 99) -> 0",
                    "mark(" + m + ", 2) -> 99", "rate(" + m + ", 99) -> 99", "rate(" + m + ", 100) -> -2",
                    "rate(" + m + ", -1) -> -2", "mark(" + m + ", 2) -> 99", "all(63) -> " + (m < 6 ? 210 - was + 99 : 210));
        }
        Runs.bounds(Runs.of(SIX), "rate(6, #)", 0, 99, -2);
        Runs.bounds(Runs.of(SIX), "rate(#, 99)", 0, 6, -2);
        Runs.bounds(Runs.of(Check.BARE), "rate(#, 99)", 0, -1, -2);
    }

    private static void rateBehindActs() {
        Runs.refused(Runs.of(SIX, "clear(0)"), "rate(0, 5) -> -5", "rate(0, 10) -> -5", "rate(7, 5) -> -2",
                "rate(0, 100) -> -2");
        Runs.refused(Runs.of(SIX, "swap(0, 1, 0)"), "rate(6, 5) -> -5");
        HassockRoof x = Runs.of(SIX, "clear(0)", "swap(0, 1, 0)").get();
        Runs.run(x, "undo() -> 1", "rate(0, 5) -> -5", "undo() -> 0", "rate(0, 5) -> 10", "clear(0) -> 1", "anew() -> 1",
                "rate(0, 6) -> 5");
    }

    /** "from now on": it is so in all that is asked, also behind acts. */
    private static void rateStays() {
        HassockRoof x = Check.told(SIX);
        Runs.run(x, "rate(0, 61) -> 10", "worth(0) -> 61", "best() -> 0", "joy(0, 0) -> 61", "life(0) -> 61",
                "share(0, 0) -> 61", "gets(0, 1, 0, 0) -> 61", "envies(5, 0) -> 1", "clear(5) -> 1", "worth(0) -> 61",
                "anew() -> 1", "worth(0) -> 61");
    }

    private static void countsOfTheMost() {
        HassockRoof x = Runs.of(Runs.FULL, many("clear(0)", 30)).get();
        int[] most = {12, 3, 10, 6, 7, 6, 10, 6, 30, 36};
        for (int what = 0; what < 10; what++) {
            Runs.run(x, "count(" + what + ") -> " + most[what]);
        }
        for (int s = 0; s < 4; s++) {
            x.row(s, 0, 60);
        }
        Check.feedText(x, " ".repeat(700));
        Runs.run(x, "count(10) -> 700", "count(11) -> 4", "count(9) -> 36");
        x = Check.told(Check.BARE);
        int[] least = {1, 0, 0, 0, 0, 0, 0, 0, 0, 1, 0, 0};
        for (int what = 0; what < 12; what++) {
            Runs.run(x, "count(" + what + ") -> " + least[what]);
        }
    }

    private static void countOfOthers() {
        Runs.bounds(Runs.of(Runs.FULL, "clear(0)"), "count(#)", 0, 11, -1);
        Runs.bounds(HassockRoof::new, "count(#)", 0, 11, -1);
    }

    private static void imagesAreThree() {
        Supplier<HassockRoof> kept = Runs.of(SIX, "image(0)", "image(1)", "image(2)");
        Runs.bounds(kept, "image(#)", 0, 2, -2);
        Runs.bounds(kept, "back(#)", 0, 2, -2);
        Runs.bounds(Runs.of(SIX), "image(#)", 0, 2, -2);
        Runs.refused(Runs.of(SIX), "back(-1) -> -2", "back(3) -> -2", "back(0) -> -6", "back(1) -> -6", "back(2) -> -6");
        for (int k = 0; k < 3; k++) {
            Supplier<HassockRoof> one = Runs.of(SIX, "image(" + k + ")", "clear(0)");
            for (int other = 0; other < 3; other++) {
                if (other == k) {
                    Runs.run(one.get(), "back(" + k + ") -> 0", "count(8) -> 0");
                } else {
                    Runs.refused(one, "back(" + other + ") -> -6");
                }
            }
        }
    }

    /** What IMAGES have stays behind calls that are refused. */
    private static void imagesStayBehindRefusals() {
        String[] refused = {"image(-1) -> -2", "image(3) -> -2", "back(-1) -> -2", "back(3) -> -2"};
        for (String row : refused) {
            HassockRoof x = Runs.of(SIX, "image(0)", "clear(0)", "image(1)", "clear(1)", "image(2)", "clear(2)").get();
            Runs.run(x, row, "count(8) -> 3", "back(2) -> 0", "count(8) -> 2", "back(1) -> 0", "count(8) -> 1",
                    "back(0) -> 0", "count(8) -> 0");
        }
        HassockRoof x = Runs.of(SIX, "image(1)", "clear(0)").get();
        Runs.run(x, "back(0) -> -6", "back(2) -> -6", "back(0) -> -6", "count(8) -> 1", "back(1) -> 0", "count(8) -> 0");
    }

    private static void imageOfNothing() {
        HassockRoof x = new HassockRoof();
        Runs.run(x, "back(0) -> -6", "image(0) -> 0", "back(0) -> 0", "blind() -> -2", "back(1) -> -6");
        Check.tell(x, SIX);
        Runs.run(x, "clear(0) -> 1", "back(1) -> -6", "count(8) -> 1", "back(0) -> 0", "blind() -> -2", "count(9) -> 0",
                "undo() -> -2");
    }

    private static void imageKeepsThirtyActs() {
        HassockRoof x = Runs.of(SIX, many("swap(0, 1, 0)", 29)).get();
        Runs.run(x, "clear(4) -> 1", "image(1) -> 0", "anew() -> 30", "back(1) -> 0", "count(8) -> 30", "flue(4, 2) -> 0",
                "at(0, 0) -> 1", "swap(0, 1, 0) -> -5", "undo() -> 29", "flue(4, 2) -> 1", "at(0, 0) -> 1", "undo() -> 28",
                "at(0, 0) -> 0");
    }

    private static void imageInPlaceOfAnother() {
        HassockRoof x = Check.told(SIX);
        Runs.run(x, "clear(0) -> 1", "image(0) -> 0", "clear(1) -> 1", "image(0) -> 0", "anew() -> 2", "back(0) -> 0",
                "count(8) -> 2", "flue(1, 2) -> 0");
        Check.tell(x, Check.SMALL);
        Runs.run(x, "image(0) -> 0", "roof() -> 0", "back(0) -> 0", "count(9) -> 13", "count(8) -> 0", "worth(1) -> 14");
        Check.holds("all as told", Runs.seen(x).equals(Runs.seen(Check.told(Check.SMALL))));
    }

    /** What is done behind it does not change what it keeps, and it can be gone back to again and again. */
    private static void imageStaysAsItWas() {
        HassockRoof x = Check.told(SIX);
        Runs.run(x, "rate(0, 77) -> 10", "swap(0, 1, 0) -> 0", "image(2) -> 0");
        for (int i = 0; i < 3; i++) {
            Runs.run(x, "clear(0) -> 1", "anew() -> 2", "rate(0, 5) -> 77", "back(2) -> 0", "mark(0, 2) -> 77",
                    "count(8) -> 1", "at(0, 0) -> 1", "flue(0, 2) -> 1", "worth(0) -> 77");
        }
        Check.tell(x, Check.BARE);
        Runs.run(x, "count(3) -> 0", "back(2) -> 0", "count(3) -> 6", "mark(0, 2) -> 77", "undo() -> 0", "at(0, 0) -> 0",
                "rate(0, 1) -> 77", "back(2) -> 0", "undo() -> 0", "mark(0, 2) -> 77");
    }

    /** "at most 512 calls": the last of them is answered as the first. */
    private static void theCallOf512() {
        HassockRoof x = Check.told(SIX);
        // To tell a text takes its feeds, and count, end, roof.
        int calls = (SIX.length() + 19) / 20 + 3;
        for (; calls + 4 <= 511; calls += 4) {
            Runs.run(x, "clear(0) -> 1", "sees(0) -> 3", "undo() -> 0", "sees(0) -> 1");
        }
        for (; calls < 511; calls++) {
            Runs.run(x, "at(0, 3) -> 0");
        }
        Runs.run(x, "swap(0, 1, 2) -> 0");
    }

    /** TAPE, SLOTS and the latest FAULT are no part of it. */
    private static void backLeavesTheRest() {
        HassockRoof x = Runs.of(SIX, "image(0)", "row(2, 1, 6)").get();
        Check.tell(x, "roof years 13");
        Check.feedText(x, "roof years 12");
        Runs.run(x, "clear(0) -> 1", "write(2, 5, 9) -> 0", "back(0) -> 0", "count(8) -> 0", "count(10) -> 13",
                "count(11) -> 1", "fault(0) -> 2", "fault(1) -> 11", "end(0) -> 0", "count(10) -> 0", "image(1) -> 0");
        Check.feedText(x, Check.BARE);
        Runs.run(x, "back(1) -> 0", "count(10) -> 26", "roof() -> 1", "back(1) -> 0", "count(9) -> 26");
    }
}

import java.util.function.Supplier;

/** Promises 45 to 51 at their edges: books that are none, of nothing, of sixty numbers; laws and flues. */
final class EdgeBookTest {
    private static final String[] ASKED = {"firsts", "ask", "leaves", "laws"};
    /** One alone, who is in year y at place y: he sees mark y then. */
    private static final String ALONE = Cells.of(12, 0, 0, "at 0 hopes 0");

    public static void main(String[] args) {
        bookHasASlotAndALooker();
        bookIsOfThreeEach();
        bookHasYears();
        bookHasMarks();
        bookHasNoughtsAndOnes();
        bookIsWrongAnywhere();
        bookOfNothing();
        bookOfSixty();
        bookOfAllWidths();
        firstsOfNone();
        firstsWhereHeIsTold();
        firstsOfOneExchanged();
        askLeavesFewer();
        askTheFirstOfSeveral();
        askTheLastYear();
        leavesAskedFirst();
        lawsOneByOne();
        lawsWithActs();
        byEachLaw();
        lawOfMost();
        fellIfMore();
        fellOfThoseThatStand();
        fellNone();
        Check.finish();
    }

    private static void all(HassockRoof x, int slot, int looker, int firsts, int ask, int leaves, int laws) {
        String of = "(" + slot + ", " + looker + ") -> ";
        Runs.run(x, "firsts" + of + firsts, "ask" + of + ask, "leaves" + of + leaves, "laws" + of + laws);
    }

    /** What is answered of a book in slot 0, for looker 0; a book that is none: -2 by all. */
    private static void book(String text, int firsts, int ask, int leaves, int laws, long... numbers) {
        HassockRoof x = Check.told(text);
        Check.fill(x, 0, 3, numbers);
        all(x, 0, 0, firsts, ask, leaves, laws);
    }

    private static void none(String text, long... numbers) {
        book(text, -2, -2, -2, -2, numbers);
    }

    private static void bookHasASlotAndALooker() {
        Supplier<HassockRoof> made = Runs.of(Cells.of(12, 0, 0, Cells.six(0)), "row(0, 0, 3)", "row(1, 1, 3)",
                "row(2, 2, 3)", "row(3, 3, 3)");
        Supplier<HassockRoof> nothing = Runs.of(Cells.of(12, 0, 0, Cells.six(0)));
        for (String name : ASKED) {
            Runs.bounds(made, name + "(#, 0)", 0, 3, -2);
            Runs.bounds(made, name + "(0, #)", 0, 5, -2);
            Runs.refused(nothing, name + "(0, 0) -> -6", name + "(3, 5) -> -6", name + "(4, 0) -> -2",
                    name + "(-1, 0) -> -2", name + "(0, 6) -> -2", name + "(0, -1) -> -2");
            // Without lookers -2 is asked ahead of -6.
            Runs.refused(Runs.of(Cells.of(12, 0, 0)), name + "(0, 0) -> -2");
        }
    }

    private static void bookIsOfThreeEach() {
        for (int n = 0; n <= 60; n++) {
            long[] noughts = new long[n];
            if (n % 3 != 0) {
                none(ALONE, noughts);
            } else if (n > 0) {
                // Year 0, mark 0, not seen: he was not at place 0.
                book(ALONE, 62, 0, 1, 0, noughts);
            }
        }
    }

    private static void bookHasYears() {
        for (int years = 1; years <= 12; years++) {
            String text = Cells.of(years, 0, 0, "at 0 hopes 0");
            // In the last year he sees mark years: from place 0.
            book(text, 1, -1, 1, 1 + (years % 6 == 3 || years % 6 == 0 ? 2 : 0) + (years % 6 == 0 ? 12 : 0),
                    years, years % 6, 1);
            none(text, years + 1, 0, 1);
            none(text, -1, 0, 1);
        }
        none(ALONE, 13, 0, 0);
        none(ALONE, 256, 0, 0);
        none(ALONE, 1L << 32, 0, 0);
        none(ALONE, Long.MIN_VALUE, 0, 0);
    }

    private static void bookHasMarks() {
        for (int m = 0; m < 6; m++) {
            book(ALONE, 1 << m, -1, 1, m == 0 ? 15 : 0, 0, m, 1);
        }
        // Mark 6 is seen from nowhere; mark 7 is none.
        book(ALONE, 0, -1, 0, 0, 0, 6, 1);
        book(ALONE, 63, 0, 1, 15, 0, 6, 0);
        none(ALONE, 0, 7, 0);
        none(ALONE, 0, -1, 0);
        none(ALONE, 0, 256, 0);
        none(ALONE, 0, 1L << 32, 0);
        none(Check.SMALL, 0, 3, 0);
        book(Check.SMALL, 7, 0, 1, 15, 0, 2, 1);
    }

    private static void bookHasNoughtsAndOnes() {
        book(ALONE, 2, -1, 1, 0, 0, 1, 1);
        book(ALONE, 61, 0, 1, 15, 0, 1, 0);
        for (long other : new long[] {2, -1, 3, 255, 256, 257, 1L << 32, (1L << 32) + 1, Long.MIN_VALUE, Long.MAX_VALUE}) {
            none(ALONE, 0, 1, other);
        }
    }

    /** A number that is none such, in the last three too, and behind what can't be. */
    private static void bookIsWrongAnywhere() {
        long[] wrong = {13, -1, 7, -1, 2, -1};
        for (int at = 0; at < 60; at++) {
            for (int k = 0; k < 2; k++) {
                long[] numbers = new long[60];
                numbers[at] = wrong[2 * (at % 3) + k];
                none(ALONE, numbers);
            }
        }
        none(ALONE, 0, 1, 1, 0, 2, 1, 0, 0, 2);
    }

    private static void bookOfNothing() {
        book(ALONE, 63, 0, 1, 15);
        book(Check.SMALL, 7, 0, 1, 15);
        book(BoundsTest.ONE, 1, -1, 1, 15);
    }

    private static void bookOfSixty() {
        long[] numbers = new long[60];
        for (int i = 0; i < 20; i++) {
            numbers[3 * i] = i % 13;
            numbers[3 * i + 1] = (i % 13 + 2) % 6;
            numbers[3 * i + 2] = 1;
        }
        book(ALONE, 4, -1, 1, 0, numbers);
        numbers[59] = 0;
        book(ALONE, 0, -1, 0, 0, numbers);
    }

    private static void bookOfAllWidths() {
        for (int width = 0; width < 3; width++) {
            long beyond = 1L << (8 << width);
            HassockRoof x = Check.told(ALONE);
            Check.fill(x, 1, width, beyond + 12, beyond + 4, beyond + 1);
            all(x, 1, 0, 16, -1, 1, 0);
            Check.fill(x, 1, width + 1, beyond + 12, 4, 1);
            all(x, 1, 0, -2, -2, -2, -2);
        }
    }

    private static void firstsOfNone() {
        book(ALONE, 0, -1, 0, 0, 0, 0, 1, 0, 1, 1);
        book(ALONE, 0, -1, 0, 0, 0, 0, 1, 0, 0, 0);
        // By law 0 he can't be at place 0 twice; by laws 2 and 3 he stays there.
        book(ALONE, 0, -1, 0, 12, 0, 0, 1, 1, 0, 1);
        // The same said twice is no harm.
        book(ALONE, 1, -1, 1, 15, 0, 0, 1, 0, 0, 1);
    }

    /** At another's place: he is where the first was told then, so that all is as well known of him. */
    private static void firstsWhereHeIsTold() {
        // By law 2 the one at place 5 changes with the one at place 0; the others stay.
        String text = Cells.of(1, 2, 0, "at 0 hopes 0", "at 5 hopes 0", "at 3 hopes 0");
        // In year 1 looker 0 is at 5 from 0; at 0 from 5; from 3 the others are at 5 and 0, and he stays; from 1 he
        // is the least and changes with 5; from 2 likewise (3 is more); from 4 looker 2 at 3 is the least.
        book(text, 7, 0, 1, 6, 1, 5, 1);
        book(text, 32, -1, 1, 8, 1, 0, 1);
        book(text, 8, -1, 1, 0, 1, 3, 1);
        book(text, 16, -1, 1, 0, 1, 4, 1);
    }

    private static void firstsOfOneExchanged() {
        HassockRoof x = Check.told(Cells.of(12, 0, 0, "at 0 hopes 0", "at 1 hopes 1"));
        x.swap(0, 1, 0);
        Check.fill(x, 0, 0);
        // Behind the exchange he is where the other was: at 1, but at 0 if he was at 1 at first.
        all(x, 0, 0, 63, 0, 5, 15);
        Check.fill(x, 0, 0, 0, 1, 1);
        all(x, 0, 0, 61, -1, 5, 15);
        Check.fill(x, 0, 0, 0, 0, 1);
        all(x, 0, 0, 2, -1, 1, 0);
    }

    /** "if fewer than now": one, or as many in each YEAR, is none. */
    private static void askLeavesFewer() {
        HassockRoof x = Check.told(Cells.of(1, 0, 0, "at 0 hopes 0", "at 1 hopes 1"));
        Check.fill(x, 0, 0, 0, 2, 0);
        all(x, 0, 0, 59, 0, 1, 15);
        x.swap(0, 1, 0);
        // Now mark 2 is never seen in year 0, and five firsts end at place 1.
        all(x, 0, 0, 63, 0, 5, 15);
        Check.fill(x, 0, 0, 0, 0, 0);
        all(x, 0, 0, 61, -1, 5, 15);
    }

    private static void askTheFirstOfSeveral() {
        // By law 0 each year tells as much: the first.
        book(ALONE, 63, 0, 1, 15);
        // Exchanged in year 1 as well, year 0 tells all, and so does year 0 alone.
        HassockRoof x = Check.told(Cells.of(2, 0, 0, "at 0 hopes 0", "at 1 hopes 1"));
        x.swap(0, 1, 1);
        Check.fill(x, 0, 0);
        all(x, 0, 0, 63, 0, 1, 15);
    }

    /** Exchanged in each YEAR ahead of the last, and changed back by law 2: the last one alone tells all. */
    private static void askTheLastYear() {
        for (int years = 1; years <= 12; years += 11) {
            HassockRoof x = Check.told(Cells.of(years, 2, 0, "at 0 hopes 0", "at 1 hopes 1"));
            for (int y = 0; y < years; y++) {
                x.swap(0, 1, y);
            }
            Check.fill(x, 0, 0);
            for (int i = 0; i < 3; i++) {
                Runs.run(x, "ask(0, 0) -> " + years, "leaves(0, 0) -> 1", "ask(0, 1) -> " + years, "leaves(0, 1) -> 1");
            }
        }
    }

    private static void leavesAskedFirst() {
        HassockRoof x = Check.told(ALONE);
        Check.fill(x, 0, 0);
        Runs.run(x, "leaves(0, 0) -> 1");
        x = Runs.of(Cells.of(12, 0, 0, "at 0 hopes 0", "at 1 hopes 1"), "swap(0, 1, 0)", "row(0, 0, 0)").get();
        Runs.run(x, "leaves(0, 0) -> 5", "leaves(0, 0) -> 5");
    }

    private static void lawsOneByOne() {
        book(ALONE, 1, -1, 1, 1, 1, 1, 1);
        book(ALONE, 16, -1, 1, 2, 1, 5, 1);
        book(ALONE, 32, -1, 1, 12, 1, 0, 1);
        book(ALONE, 1, -1, 1, 15, 0, 0, 1);
        book(ALONE, 2, -1, 1, 0, 0, 1, 1);
        // He hopes for what he does not see: by law 3 he goes round with the other one who does not.
        String two = Cells.of(1, 0, 0, "at 1 hopes 6", "at 3 hopes 6");
        HassockRoof x = Check.told(two);
        Check.fill(x, 0, 1, 1, 3, 1);
        Runs.run(x, "laws(0, 0) -> 12", "laws(0, 1) -> 0");
        Check.fill(x, 0, 1, 1, 2, 1);
        Runs.run(x, "laws(0, 0) -> 1", "laws(0, 1) -> 2");
    }

    private static void lawsWithActs() {
        HassockRoof x = Check.told(Cells.of(1, 0, 0, "at 0 hopes 0", "at 4 hopes 4"));
        x.swap(0, 1, 0);
        Check.fill(x, 0, 1, 1, 5, 1);
        Runs.run(x, "laws(0, 0) -> 1", "laws(0, 1) -> 2", "undo() -> 0", "laws(0, 1) -> 1", "laws(0, 0) -> 2",
                "clear(3) -> 1", "clear(4) -> 1", "laws(0, 1) -> 11");
    }

    private static void byEachLaw() {
        HassockRoof x = Check.told(ALONE);
        // Years 0 to 12: each place twice, place 0 three times; by laws 2 and 3 he stays.
        Runs.run(x, "by(0) -> 430", "by(1) -> 430", "by(2) -> 10", "by(3) -> 10", "by(4) -> -2", "by(-1) -> -2",
                "law() -> 0", "count(1) -> 0", "life(0) -> 430");
        Runs.run(Check.told(Cells.of(12, 3, 0)), "by(0) -> 0", "by(3) -> 0", "law() -> 0");
        Runs.run(Check.told(Check.BARE), "by(0) -> 0", "by(1) -> 0", "by(2) -> 0", "by(3) -> 0", "law() -> 0");
    }

    /** Each law is the one of most once; of several the least. */
    private static void lawOfMost() {
        Runs.run(Check.told(Cells.of(1, 3, 0, "at 1 hopes 1")), "by(0) -> 50", "by(1) -> 30", "law() -> 0");
        Runs.run(Check.told(Cells.of(1, 3, 0, "at 0 hopes 0")), "by(0) -> 30", "by(1) -> 70", "law() -> 1");
        Runs.run(Check.told(Cells.of(1, 0, 0, "at 5 hopes 5", "at 4 hopes 4")), "by(0) -> 180", "by(1) -> 200",
                "by(2) -> 220", "by(3) -> 110", "law() -> 2");
        Runs.run(Check.told(Cells.of(1, 0, 0, "at 5 hopes 6", "at 4 hopes 6")), "by(2) -> 220", "by(3) -> 220",
                "law() -> 2");
        Runs.run(Check.told(Cells.of(1, 0, 0, "at 5 hopes 6", "at 4 hopes 6", "at 3 hopes 6")), "by(0) -> 270",
                "by(1) -> 270", "by(2) -> 250", "by(3) -> 300", "law() -> 3");
    }

    private static void fellIfMore() {
        // He stays at place 2; flues 1 and 2 are beside him.
        String text = Cells.of(1, 3, 0, "at 2 hopes 2");
        Runs.run(Check.told(text), "fell() -> 2", "rate(3, 20) -> 40", "fell() -> 1", "rate(3, 21) -> 20", "fell() -> 2",
                "rate(3, 0) -> 21", "fell() -> 1", "rate(1, 0) -> 20", "fell() -> -1", "rate(3, 1) -> 0", "fell() -> 2",
                "flue(2, 2) -> 1", "count(8) -> 0");
    }

    private static void fellOfThoseThatStand() {
        HassockRoof x = Check.told(Cells.of(1, 3, 0, "at 2 hopes 2"));
        int[] order = {2, 3, 4, 5, 1, 0};
        for (int f : order) {
            Runs.run(x, "fell() -> " + f, "clear(" + f + ") -> 1");
        }
        Runs.run(x, "fell() -> -1", "life(0) -> 280", "undo() -> 5", "fell() -> 0");
    }

    private static void fellNone() {
        Runs.run(Check.told(Check.BARE), "fell() -> -1");
        Runs.run(Check.told(Cells.of(1, 3, 0)), "fell() -> -1");
        Runs.run(Check.told(Cells.worth(1, 3, 0, new int[7], "at 2 hopes 2")), "fell() -> -1");
        Runs.run(Check.told(Check.BARE + "place 0 0;mark 1 0 worth 9;looker at 0 hopes 0;"), "fell() -> -1");
        Runs.run(Check.told(Check.BARE + "place 0 0;mark 1 0 worth 9;looker at 0 hopes 0;flue 9 9;"), "fell() -> -1");
    }
}

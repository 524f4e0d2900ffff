import java.math.BigInteger;

/** Promises 52 to 55, 60 and 61 at their edges: odds of none and of ten, YEAR 8, the greatest seed. */
final class EdgeChanceTest {
    public static void main(String[] args) {
        turnsFromTheLastToTheFirst();
        halfOfAllTogetherCut();
        restsOfEachKind();
        placesToldFluesAsNow();
        chanceOfNoOdds();
        chanceOfTenInTen();
        chanceInYearEight();
        chanceOfNothing();
        chanceByEachLaw();
        chanceBehindExchanges();
        meanBeyondAnInt();
        meanOfNothing();
        meanInLowestTerms();
        drawsBelowOdds();
        drawsOfNoOddsAndOfTen();
        drawsOfTheGreatestSeed();
        drawnJoy();
        drawnWithExchanges();
        luckOfOneAndOfTwenty();
        luckBeyondTheGreatestSeed();
        luckOfNoneAndOfAll();
        Check.finish();
    }

    private static void turnsFromTheLastToTheFirst() {
        HassockRoof x = Check.told(Cells.of(1, 0, 0, "at 5 hopes 0", "at 2 hopes 0"));
        Runs.run(x, "gets(0, 1, 0, 0) -> 60", "gets(0, 1, 1, 0) -> 10", "gets(0, 1, 1, 1) -> 10", "gets(1, 0, 0, 1) -> 30",
                "gets(1, 0, 1, 0) -> 40", "gets(1, 0, 1, 1) -> 40");
    }

    /** Of what both see: 99 and 1 and 0, halved and cut; of two marks the half of both together. */
    private static void halfOfAllTogetherCut() {
        HassockRoof x = Check.told(Cells.worth(1, 0, 0, new int[] {3, 5, 0, 0, 0, 0, 0}, "at 0 hopes 0", "at 1 hopes 0"));
        Runs.run(x, "gets(0, 1, 1, 0) -> 2", "gets(1, 0, 0, 1) -> 2", "gets(0, 1, 0, 0) -> 3", "gets(0, 1, 1, 1) -> 5",
                "gets(1, 0, 1, 1) -> 0", "rate(1, 99) -> 5", "gets(0, 1, 1, 0) -> 49", "rate(1, 1) -> 99",
                "gets(0, 1, 1, 0) -> 0", "rate(1, 0) -> 1", "gets(0, 1, 1, 0) -> 0", "rate(1, 5) -> 0", "clear(0) -> 1",
                "gets(0, 1, 0, 0) -> 4", "gets(1, 0, 0, 0) -> 4", "clear(1) -> 1", "gets(0, 1, 1, 1) -> 4");
        // The whole of what he alone sees, and the half of the rest: 99 * 6 of 99 * 7 alone.
        StringBuilder text = new StringBuilder(Check.BARE + "place 0 0;place 30 0;");
        for (int m = 0; m < 7; m++) {
            text.append("mark ").append(m).append(" 2 worth 99;");
        }
        text.append("looker at 0 hopes 0;looker at 1 hopes 0;");
        Runs.run(Check.told(text.toString()), "gets(0, 1, 0, 0) -> 346", "gets(1, 0, 1, 1) -> 346", "rests(0, 1) -> 15");
    }

    /** Two places alone, so that who turns is where the other one is told. */
    private static String pair(int worth, int other) {
        return "roof years 1 law 0 odds 0;place 0 0;mark 1 0 worth " + worth + ";flue 2 0;mark 3 0 worth " + other
                + ";place 4 0;looker at 0 hopes 0;looker at 1 hopes 0;";
    }

    private static void restsOfEachKind() {
        // As good both: neither turns, or both do.
        Runs.run(Check.told(pair(10, 10)), "rests(0, 1) -> 9", "rests(1, 0) -> 9");
        // One place is worth nothing: who is there turns.
        Runs.run(Check.told(pair(0, 10)), "rests(0, 1) -> 2", "rests(1, 0) -> 4");
        Runs.run(Check.told(pair(10, 0)), "rests(0, 1) -> 4", "rests(1, 0) -> 2");
        // All is worth nothing: all is at rest.
        Runs.run(Check.told(pair(0, 0)), "rests(0, 1) -> 15", "rests(1, 0) -> 15");
        // Half is just as much as the own: neither has more by it.
        Runs.run(Check.told(pair(5, 10)), "rests(0, 1) -> 11", "rests(1, 0) -> 13");
        Runs.run(Check.told(pair(4, 10)), "rests(0, 1) -> 2", "rests(1, 0) -> 4");
        Runs.run(Check.told(pair(5, 11)), "rests(0, 1) -> 11", "rests(1, 0) -> 13");
        Runs.run(Check.told(pair(5, 12)), "rests(0, 1) -> 2", "rests(1, 0) -> 4");
        // The other one has as much by turning.
        HassockRoof x = Check.told(Cells.worth(1, 0, 0, new int[] {10, 4, 4, 0, 0, 0, 0}, "at 0 hopes 0", "at 1 hopes 0"));
        Runs.run(x, "rests(0, 1) -> 5", "rests(1, 0) -> 3");
    }

    private static void placesToldFluesAsNow() {
        HassockRoof x = Check.told(Cells.of(2, 0, 0, "at 0 hopes 0", "at 3 hopes 0"));
        Runs.run(x, "gets(0, 1, 0, 0) -> 10", "swap(0, 1, 0) -> 5", "gets(0, 1, 0, 0) -> 10", "clear(0) -> 1",
                "gets(0, 1, 0, 0) -> 30", "undo() -> 1", "gets(0, 1, 0, 0) -> 10");
    }

    private static void chance(HassockRoof x, int looker, int place, int year, long above, long below) {
        String of = "(" + looker + ", " + place + ", " + year;
        Runs.run(x, "chance" + of + ", 0) -> " + above, "chance" + of + ", 1) -> " + below);
    }

    private static void chanceOfNoOdds() {
        HassockRoof x = Check.told(Cells.of(12, 0, 0, "at 3 hopes 0"));
        for (int year = 1; year <= 8; year++) {
            chance(x, 0, 3, year, 1, 1);
            chance(x, 0, 4, year, 0, 1);
            Runs.run(x, "mean(0, " + year + ", 0) -> 40", "mean(0, " + year + ", 1) -> 1");
        }
    }

    private static void chanceOfTenInTen() {
        HassockRoof x = Check.told(Cells.of(12, 0, 10, "at 3 hopes 0"));
        for (int year = 1; year <= 8; year++) {
            chance(x, 0, (3 + year) % 6, year, 1, 1);
            chance(x, 0, (4 + year) % 6, year, 0, 1);
            Runs.run(x, "mean(0, " + year + ", 0) -> " + Cells.WORTH[(3 + year) % 6], "mean(0, " + year + ", 1) -> 1");
        }
    }

    /** Of 8 years with odds 1: 0 or 6 moves, 1 or 7, 2 or 8, 3, 4, 5; all of 10 to the 8th. */
    private static void chanceInYearEight() {
        HassockRoof x = Check.told(Cells.of(8, 0, 1, "at 0 hopes 0"));
        long all = 100000000;
        long[] above = {43046721 + 28 * 81, 8 * 4782969 + 8 * 9, 28 * 531441 + 1, 56 * 59049, 70 * 6561, 56 * 729};
        long sum = 0;
        for (int p = 0; p < 6; p++) {
            long common = BigInteger.valueOf(above[p]).gcd(BigInteger.valueOf(all)).longValue();
            chance(x, 0, p, 8, above[p] / common, all / common);
            sum += above[p];
        }
        Check.due("all together", sum, all);
        chance(x, 0, 0, 8, 43048989, 100000000);
        chance(x, 0, 1, 8, 2391489, 6250000);
        Runs.run(x, "chance(0, 0, 9, 0) -> -2", "chance(0, 0, 0, 0) -> -2");
        x = Check.told(Cells.of(12, 0, 1, "at 0 hopes 0"));
        chance(x, 0, 0, 8, 43048989, 100000000);
        Runs.run(x, "chance(0, 0, 9, 0) -> -2", "mean(0, 9, 0) -> -2", "at(0, 9) -> 3");
    }

    private static void chanceOfNothing() {
        HassockRoof x = Check.told(Cells.of(2, 0, 5, "at 0 hopes 0"));
        chance(x, 0, 3, 2, 0, 1);
        chance(x, 0, 2, 1, 0, 1);
        chance(x, 0, 2, 2, 1, 4);
        chance(x, 0, 1, 2, 1, 2);
    }

    private static void chanceByEachLaw() {
        int[] place = {1, 5, 0, 0};
        for (int law = 0; law < 4; law++) {
            HassockRoof x = Check.told(Cells.of(1, law, 3, "at 0 hopes 0"));
            if (law < 2) {
                chance(x, 0, place[law], 1, 3, 10);
                chance(x, 0, 0, 1, 7, 10);
            } else {
                chance(x, 0, 0, 1, 1, 1);
            }
        }
        // By law 2 two change; by law 3 those who do not see.
        HassockRoof x = Check.told(Cells.of(2, 2, 1, "at 0 hopes 0", "at 4 hopes 4"));
        chance(x, 0, 4, 1, 1, 10);
        chance(x, 0, 4, 2, 9, 50);
        x = Check.told(Cells.of(2, 3, 2, "at 0 hopes 4", "at 4 hopes 0"));
        // Once there they stay: 1 - 0.64.
        chance(x, 0, 4, 2, 9, 25);
        chance(x, 1, 4, 2, 16, 25);
    }

    /** "(exchanges by acts are done in each YEAR)": those of the YEAR that is asked, too. */
    private static void chanceBehindExchanges() {
        HassockRoof x = Check.told(Cells.of(3, 0, 0, "at 0 hopes 0", "at 3 hopes 0"));
        Runs.run(x, "swap(0, 1, 1) -> 0");
        chance(x, 0, 3, 1, 1, 1);
        chance(x, 0, 3, 2, 1, 1);
        Runs.run(x, "swap(0, 1, 2) -> 3");
        chance(x, 0, 3, 1, 1, 1);
        chance(x, 0, 0, 2, 1, 1);
        chance(x, 0, 0, 3, 1, 1);
        Runs.run(x, "swap(1, 0, 0) -> 3");
        chance(x, 0, 0, 1, 1, 1);
        // They are moved for sure, or as likely as not, and exchanged in each case.
        x = Check.told(Cells.of(3, 0, 10, "at 0 hopes 0", "at 3 hopes 0"));
        Runs.run(x, "swap(0, 1, 1) -> 0");
        chance(x, 0, 4, 1, 1, 1);
        chance(x, 1, 1, 1, 1, 1);
        chance(x, 0, 5, 2, 1, 1);
        x = Check.told(Cells.of(3, 0, 5, "at 0 hopes 0", "at 3 hopes 0"));
        Runs.run(x, "swap(0, 1, 1) -> 0");
        chance(x, 0, 3, 1, 1, 2);
        chance(x, 0, 4, 1, 1, 2);
        chance(x, 0, 4, 2, 1, 2);
        Runs.run(x, "mean(0, 1, 0) -> 45", "mean(0, 1, 1) -> 1");
    }

    private static void meanBeyondAnInt() {
        HassockRoof x = Check.told(Cells.worth(8, 0, 1, new int[] {99, 0, 0, 0, 0, 0, 0}, "at 0 hopes 0"));
        Runs.run(x, "mean(0, 8, 0) -> 4261849911", "mean(0, 8, 1) -> 100000000");
    }

    private static void meanOfNothing() {
        HassockRoof x = Check.told(Cells.worth(8, 0, 1, new int[7], "at 0 hopes 0"));
        Runs.run(x, "mean(0, 8, 0) -> 0", "mean(0, 8, 1) -> 1", "mean(0, 1, 0) -> 0", "mean(0, 1, 1) -> 1");
    }

    private static void meanInLowestTerms() {
        HassockRoof x = Check.told(Cells.of(2, 0, 5, "at 0 hopes 0"));
        Runs.run(x, "mean(0, 1, 0) -> 15", "mean(0, 1, 1) -> 1", "mean(0, 2, 0) -> 20", "mean(0, 2, 1) -> 1",
                "rate(0, 11) -> 10", "mean(0, 1, 0) -> 31", "mean(0, 1, 1) -> 2", "mean(0, 2, 0) -> 81",
                "mean(0, 2, 1) -> 4");
    }

    /** From seed 0 the draws are 0, 8, 8, 7: one that is as much as odds moves nobody. */
    private static void drawsBelowOdds() {
        int[] moved = {0, 1, 1, 1, 1, 1, 1, 1, 9, 15, 15};
        for (int odds = 0; odds <= 10; odds++) {
            Runs.run(Check.told(Cells.of(4, 0, odds)), "drawn(0, 0) -> " + moved[odds]);
        }
        // One draw a YEAR ahead of the last.
        Runs.run(Check.told(Cells.of(1, 0, 10)), "drawn(0, 0) -> 1");
        Runs.run(Check.told(Cells.of(3, 0, 8)), "drawn(0, 0) -> 1");
    }

    private static void drawsOfNoOddsAndOfTen() {
        for (int years = 1; years <= 12; years++) {
            for (int seed : new int[] {0, 1, 12345, 2000000000}) {
                Runs.run(Check.told(Cells.of(years, 0, 0)), "drawn(" + seed + ", 0) -> 0");
                Runs.run(Check.told(Cells.of(years, 0, 10)), "drawn(" + seed + ", 0) -> " + ((1 << years) - 1));
            }
        }
    }

    private static int movedYears(long seed, int years, int odds) {
        BigInteger x = BigInteger.valueOf(seed);
        int set = 0;
        for (int y = 0; y < years; y++) {
            x = x.multiply(BigInteger.valueOf(1103515245)).add(BigInteger.valueOf(12345))
                    .mod(BigInteger.valueOf(2147483648L));
            set |= x.divide(BigInteger.valueOf(65536)).intValue() % 10 < odds ? 1 << y : 0;
        }
        return set;
    }

    private static void drawsOfTheGreatestSeed() {
        for (int odds = 0; odds <= 10; odds++) {
            HassockRoof x = Check.told(Cells.of(12, 0, odds, "at 0 hopes 0"));
            for (int seed : new int[] {0, 1, 2, 65535, 65536, 1073741824, 1999999999, 2000000000}) {
                Runs.run(x, "drawn(" + seed + ", 0) -> " + movedYears(seed, 12, odds));
            }
            Runs.run(x, "drawn(2000000001, 0) -> -2", "drawn(2147483647, 0) -> -2", "drawn(-1, 0) -> -2",
                    "drawn(-2147483648, 1) -> -2", "drawn(0, 2) -> -2", "drawn(0, -1) -> -2");
        }
    }

    private static void drawnJoy() {
        // Moved behind year 0 alone: from place 0 to 1 and no further.
        Runs.run(Check.told(Cells.of(4, 0, 7, "at 0 hopes 0")), "drawn(0, 1) -> 30");
        Runs.run(Check.told(Cells.of(4, 0, 8, "at 0 hopes 0")), "drawn(0, 1) -> 60");
        Runs.run(Check.told(Cells.of(4, 0, 0, "at 0 hopes 0")), "drawn(0, 1) -> 10");
        Runs.run(Check.told(Cells.of(4, 0, 10, "at 0 hopes 0")), "drawn(0, 1) -> 150", "by(0) -> 150");
        Runs.run(Check.told(Cells.of(4, 1, 8, "at 0 hopes 0", "at 5 hopes 0")), "drawn(0, 1) -> " + (10 + 60 + 50 + 60 + 50
                + 40));
        Runs.run(Check.told(Cells.of(4, 0, 8)), "drawn(0, 1) -> 0");
        Runs.run(Check.told(Check.BARE), "drawn(0, 0) -> 0", "drawn(0, 1) -> 0", "drawn(2000000000, 1) -> 0");
    }

    private static void drawnWithExchanges() {
        HassockRoof x = Check.told(Cells.of(2, 0, 0, "at 0 hopes 0", "at 3 hopes 3"));
        Runs.run(x, "drawn(0, 1) -> 50", "swap(0, 1, 1) -> 5", "drawn(0, 0) -> 0", "drawn(0, 1) -> 100", "swap(0, 1, 0) -> 2",
                "drawn(0, 1) -> 100", "undo() -> 1", "undo() -> 0", "drawn(0, 1) -> 50");
    }

    /** He hopes for the next place's mark: he has luck if he is moved once. */
    private static void luckOfOneAndOfTwenty() {
        HassockRoof x = Check.told(Cells.of(1, 0, 5, "at 0 hopes 1"));
        for (int first : new int[] {0, 1, 1000, 65536}) {
            int lucky = 0;
            for (int n = 1; n <= 20; n++) {
                lucky += movedYears(first + n - 1, 1, 5);
                Runs.run(x, "luck(" + first + ", " + n + ", 0) -> " + lucky);
            }
        }
        Runs.run(x, "luck(0, 0, 0) -> -2", "luck(0, 21, 0) -> -2", "luck(0, -1, 0) -> -2", "luck(0, 1, 1) -> -2");
        // The next seed counts from the second on: of two alike in nothing else.
        x = Check.told(Cells.of(1, 0, 1, "at 0 hopes 1"));
        int seed = 0;
        while (movedYears(seed, 1, 1) == 1 || movedYears(seed + 1, 1, 1) == 0) {
            seed++;
        }
        Runs.run(x, "luck(" + seed + ", 1, 0) -> 0", "luck(" + seed + ", 2, 0) -> 1", "luck(" + (seed + 1) + ", 1, 0) -> 1");
    }

    /** Only the first seed is held to its bounds. */
    private static void luckBeyondTheGreatestSeed() {
        HassockRoof x = Check.told(Cells.of(2, 0, 5, "at 0 hopes 1"));
        int lucky = 0;
        for (int n = 1; n <= 20; n++) {
            lucky += movedYears(2000000000L + n - 1, 2, 5) != 0 ? 1 : 0;
            Runs.run(x, "luck(2000000000, " + n + ", 0) -> " + lucky);
        }
        Runs.run(x, "luck(2000000001, 1, 0) -> -2", "luck(-1, 2, 0) -> -2");
    }

    private static void luckOfNoneAndOfAll() {
        // He sees it at once; it is seen from nowhere; he is never moved; he is always.
        Runs.run(Check.told(Cells.of(1, 0, 5, "at 0 hopes 0", "at 1 hopes 6")), "luck(7, 20, 0) -> 20",
                "luck(7, 20, 1) -> 0");
        Runs.run(Check.told(Cells.of(12, 0, 0, "at 0 hopes 1")), "luck(7, 20, 0) -> 0");
        Runs.run(Check.told(Cells.of(12, 0, 10, "at 0 hopes 1")), "luck(7, 20, 0) -> 20");
        // By an exchange in a YEAR ahead of the last.
        HassockRoof x = Check.told(Cells.of(1, 0, 0, "at 0 hopes 1", "at 1 hopes 6"));
        Runs.run(x, "luck(7, 20, 0) -> 0", "swap(0, 1, 0) -> 2", "luck(7, 20, 0) -> 20");
    }
}

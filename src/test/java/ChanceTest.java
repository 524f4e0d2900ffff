/** Promises 52 to 55, 60 and 61: two who turn, chance, years drawn. */
final class ChanceTest {
    public static void main(String[] args) {
        game();
        chances();
        means();
        exchanged();
        wrongOnes();
        draws();
        Check.finish();
    }

    private static void game() {
        HassockRoof x = Check.told(Check.SMALL);
        int[][] first = {{1, 1}, {7, 9}};
        int[][] other = {{13, 8}, {7, 4}};
        for (int t = 0; t < 2; t++) {
            for (int o = 0; o < 2; o++) {
                Check.due("gets(0, 1, " + t + ", " + o + ")", x.gets(0, 1, t, o), first[t][o]);
                Check.due("gets(1, 0, " + o + ", " + t + ")", x.gets(1, 0, o, t), other[t][o]);
            }
        }
        Check.due("rests(0, 1)", x.rests(0, 1), 2);
        Check.due("rests(1, 0)", x.rests(1, 0), 4);
        Check.due("rests(0, 0)", x.rests(0, 0), -2);
        Check.due("rests(0, 2)", x.rests(0, 2), -2);
        Check.due("rests(-1, 0)", x.rests(-1, 0), -2);
        Check.due("gets twice", x.gets(1, 1, 0, 0), -1000);
        Check.due("gets of none", x.gets(0, 2, 0, 0), -1000);
        Check.due("gets of none", x.gets(-1, 0, 0, 0), -1000);
        Check.due("gets by 2", x.gets(0, 1, 2, 0), -1000);
        Check.due("gets by -1", x.gets(0, 1, 0, -1), -1000);
        // At the places told, with the flues of now.
        x.swap(0, 1, 0);
        Check.due("exchanges aside", x.gets(0, 1, 0, 0), 1);
        x.clear(0);
        Check.due("flues as now: 9 of it half", x.gets(0, 1, 0, 0), 4);
        // The last one turns to the first place; all alike is at rest in all ways.
        x = Check.told("roof years 1 law 0 odds 0;place 0 0;place 4 0;mark 2 2 worth 5;mark 0 2 worth 9;flue 2 1;"
                + "looker at 1 hopes 0;looker at 0 hopes 0;");
        Check.due("sees(0)", x.sees(0), 3);
        Check.due("sees(1)", x.sees(1), 1);
        Check.due("he turns to the first", x.gets(0, 1, 1, 1), 9 + 2);
        x = Check.told("roof years 1 law 0 odds 0;place 0 0;place 4 0;mark 2 2 worth 5;"
                + "looker at 1 hopes 0;looker at 0 hopes 0;");
        Check.due("all at rest", x.rests(0, 1), 15);
        Check.due("half, cut", x.gets(0, 1, 0, 0), 2);
    }

    private static void chance(HassockRoof x, int looker, int place, int year, int above, int below) {
        String of = "(" + looker + ", " + place + ", " + year + ")";
        Check.due("chance above" + of, x.chance(looker, place, year, 0), above);
        Check.due("chance below" + of, x.chance(looker, place, year, 1), below);
    }

    private static void chances() {
        HassockRoof x = Check.told(Check.SMALL);
        chance(x, 0, 0, 1, 1, 2);
        chance(x, 0, 1, 1, 1, 2);
        chance(x, 0, 2, 1, 0, 1);
        chance(x, 0, 0, 2, 1, 4);
        chance(x, 0, 1, 2, 1, 2);
        chance(x, 0, 2, 2, 1, 4);
        chance(x, 0, 0, 3, 1, 4);
        chance(x, 0, 1, 3, 3, 8);
        chance(x, 1, 1, 3, 1, 4);
        x = Check.told(Check.SMALL.replace("odds 5", "odds 3"));
        chance(x, 0, 0, 1, 7, 10);
        chance(x, 0, 1, 2, 21, 50);
        x = Check.told(Check.SMALL.replace("odds 5", "odds 0"));
        chance(x, 0, 0, 3, 1, 1);
        chance(x, 0, 1, 3, 0, 1);
        x = Check.told(Check.SMALL.replace("odds 5", "odds 10"));
        chance(x, 0, 1, 1, 1, 1);
        x = Check.told(Check.SMALL.replace("odds 5", "odds 1").replace("years 3", "years 12"));
        // Of 8 years 1, 4 or 7 moves: 8 * 9^7 + 70 * 9^4 + 8 * 9 of 10^8.
        chance(x, 0, 1, 8, 19361547, 50000000);
        Check.due("year 9", x.chance(0, 1, 9, 0), -2);
        Check.due("year 9", x.mean(0, 9, 0), -2);
    }

    private static void means() {
        HassockRoof x = Check.told(Check.SMALL);
        long[][] mean = {{8, 1}, {39, 4}, {73, 8}};
        for (int y = 1; y <= 3; y++) {
            Check.due("mean above", x.mean(0, y, 0), mean[y - 1][0]);
            Check.due("mean below", x.mean(0, y, 1), mean[y - 1][1]);
        }
        x = Check.told("roof years 1 law 0 odds 5;place 0 0;mark 2 0 worth 9;flue 1 0;looker at 0 hopes 0;");
        Check.due("mean of nothing above", x.mean(0, 1, 0), 0);
        Check.due("mean of nothing below", x.mean(0, 1, 1), 1);
    }

    private static void exchanged() {
        HassockRoof x = Check.told(Check.SMALL);
        x.swap(0, 1, 0);
        chance(x, 0, 1, 1, 1, 2);
        chance(x, 0, 2, 1, 1, 2);
        x.swap(0, 1, 1);
        // Behind the exchange of year 1 itself: looker 1 was at 0 or 1.
        chance(x, 0, 0, 1, 1, 2);
        chance(x, 0, 1, 1, 1, 2);
    }

    private static void wrongOnes() {
        HassockRoof x = Check.told(Check.SMALL);
        int[][] bad = {{-1, 0, 1, 0}, {2, 0, 1, 0}, {0, -1, 1, 0}, {0, 3, 1, 0}, {0, 0, 0, 0}, {0, 0, 4, 0},
            {0, 0, -1, 0}, {0, 0, 1, 2}, {0, 0, 1, -1}};
        for (int[] b : bad) {
            Check.due("chance", x.chance(b[0], b[1], b[2], b[3]), -2);
        }
        Check.due("mean(2, 1, 0)", x.mean(2, 1, 0), -2);
        Check.due("mean(0, 0, 0)", x.mean(0, 0, 0), -2);
        Check.due("mean(0, 4, 0)", x.mean(0, 4, 0), -2);
        Check.due("mean(0, 1, 2)", x.mean(0, 1, 2), -2);
        Check.due("drawn(-1, 0)", x.drawn(-1, 0), -2);
        Check.due("drawn(2000000001, 0)", x.drawn(2000000001, 0), -2);
        Check.due("drawn(0, 2)", x.drawn(0, 2), -2);
        Check.due("drawn(0, -1)", x.drawn(0, -1), -2);
        Check.due("luck(-1, 1, 0)", x.luck(-1, 1, 0), -2);
        Check.due("luck(2000000001, 1, 0)", x.luck(2000000001, 1, 0), -2);
        Check.due("luck(0, 0, 0)", x.luck(0, 0, 0), -2);
        Check.due("luck(0, 21, 0)", x.luck(0, 21, 0), -2);
        Check.due("luck(0, 1, 2)", x.luck(0, 1, 2), -2);
        Check.due("luck(0, 1, -1)", x.luck(0, 1, -1), -2);
    }

    private static void draws() {
        // From seed 0: x is 12345, 1406932606, 654583775, 1449466924, ..: draws 0, 8, 8, 7.
        HassockRoof x = Check.told(Check.SMALL.replace("odds 5", "odds 8").replace("years 3", "years 4"));
        Check.due("drawn(0, 0)", x.drawn(0, 0), 1 + 8);
        // Moved behind years 0 and 3: he is at 0, 1, 1, 1, 2; the other at 1, 2, 2, 2, 0.
        Check.due("drawn(0, 1)", x.drawn(0, 1), 2 + 12 + 14);
        Check.due("drawn(2000000000, 0)", x.drawn(2000000000, 0), drawnYears(2000000000, 4, 8));
        Check.due("luck(0, 1, 0)", x.luck(0, 1, 0), 1);
        int lucky = 0;
        Check.tell(x, Check.SMALL.replace("odds 5", "odds 2"));
        for (int s = 17; s < 17 + 20; s++) {
            Check.due("drawn(" + s + ", 0)", x.drawn(s, 0), drawnYears(s, 3, 2));
            // Place 0 is the only one from which he does not see it, so one move is enough.
            lucky += drawnYears(s, 3, 2) != 0 ? 1 : 0;
        }
        Check.due("luck(17, 20, 0)", x.luck(17, 20, 0), lucky);
        Check.holds("some have luck, some have none", lucky > 0 && lucky < 20);
        Check.due("luck(2000000000, 20, 1)", x.luck(2000000000, 20, 1), 20);
    }

    private static int drawnYears(int seed, int years, int odds) {
        java.math.BigInteger x = java.math.BigInteger.valueOf(seed);
        int set = 0;
        for (int y = 0; y < years; y++) {
            x = x.multiply(java.math.BigInteger.valueOf(1103515245)).add(java.math.BigInteger.valueOf(12345))
                    .mod(java.math.BigInteger.valueOf(2147483648L));
            set |= x.longValue() / 65536 % 10 < odds ? 1 << y : 0;
        }
        return set;
    }
}

import java.util.function.Supplier;

/**
 * Every number that a call takes, on a roof with the most of everything, on a small one, on one of
 * one of each, and on one of nothing: the least and the greatest are taken, those outside refused,
 * and all stays behind what is refused.
 */
final class BoundsTest {
    static final String ONE = "roof years 1 law 2 odds 5;place 0 0;mark 0 30 worth 7;flue 30 0;"
            + "looker at 0 hopes 0;";

    /** Each sentence "there is none such": the call, and what each of its numbers is. */
    private static final String[] CALLS = {
        "place P W", "mark M X", "flue F X", "looker L W", "ways P",
        "sees P", "from M", "hides P M", "worth P",
        "at L Y", "who P Y", "seen L Y", "joy L Y", "life L", "drill L", "glad Y", "often L", "walks L",
        "envies L Y", "trade Y",
        "put L", "lot L P W", "share P W", "all B",
        "by A", "chance L P C W", "mean L C W",
        "clear F", "drawn S W", "luck S N L", "rate M R"};

    public static void main(String[] args) {
        String[] roofs = {Runs.FULL, Check.SMALL, ONE, Check.BARE};
        for (String roof : roofs) {
            for (String told : CALLS) {
                eachNumber(roof, told.split(" "));
            }
            twoLookers(roof);
        }
        choicesAndYears(Runs.FULL, 12);
        choicesAndYears(Check.SMALL, 3);
        yearsOfChance();
        Check.finish();
    }

    private static void eachNumber(String roof, String[] told) {
        Supplier<HassockRoof> made = Runs.of(roof);
        HassockRoof x = made.get();
        boolean isThere = true;
        for (int i = 1; i < told.length; i++) {
            isThere &= least(told[i]) <= most(x, told[i]);
        }
        for (int i = 1; i < told.length; i++) {
            StringBuilder pattern = new StringBuilder(told[0] + "(");
            for (int k = 1; k < told.length; k++) {
                pattern.append(k > 1 ? ", " : "").append(k == i ? "#" : Long.toString(least(told[k])));
            }
            pattern.append(")");
            // Where another number can't be right, every number is refused.
            long most = isThere ? most(x, told[i]) : least(told[i]) - 1;
            Runs.bounds(made, pattern.toString(), least(told[i]), most, -2);
        }
    }

    private static long least(String kind) {
        return kind.equals("C") || kind.equals("N") ? 1 : 0;
    }

    private static long most(HassockRoof x, String kind) {
        switch (kind) {
            case "P": return x.count(3) - 1;
            case "M": return x.count(4) - 1;
            case "F": return x.count(5) - 1;
            case "L": return x.count(7) - 1;
            case "Y": return x.count(0);
            case "C": return Math.min(8, x.count(0));
            case "W": return 1;
            case "X": return 2;
            case "B": return (1 << x.count(3)) - 1;
            case "A": return 3;
            case "S": return 2000000000;
            case "N": return 20;
            default: return 99;
        }
    }

    /** rests, gets, swap: "there are none such, one twice". */
    private static void twoLookers(String roof) {
        Supplier<HassockRoof> made = Runs.of(roof);
        int lookers = made.get().count(7);
        int[] tried = {-1, 0, 1, 2, 3, 4, 5, 6, 256, Integer.MIN_VALUE, Integer.MAX_VALUE};
        for (int a : tried) {
            for (int b : tried) {
                String two = a + ", " + b;
                if (a >= 0 && a < lookers && b >= 0 && b < lookers && a != b) {
                    Check.holds("rests(" + two + ")", Runs.call(made.get(), "rests(" + two + ")") >= 0);
                    Check.holds("gets(" + two + ", 1, 1)", Runs.call(made.get(), "gets(" + two + ", 1, 1)") >= 0);
                    Check.holds("swap(" + two + ", 0)", Runs.call(made.get(), "swap(" + two + ", 0)") >= 0);
                } else {
                    Runs.refused(made, "rests(" + two + ") -> -2", "gets(" + two + ", 0, 0) -> -1000",
                            "swap(" + two + ", 0) -> -2");
                }
            }
        }
    }

    /** gets: choices are 0 or 1; swap: a YEAR ahead of the last. */
    private static void choicesAndYears(String roof, int years) {
        Runs.bounds(Runs.of(roof), "gets(0, 1, #, 0)", 0, 1, -1000);
        Runs.bounds(Runs.of(roof), "gets(0, 1, 0, #)", 0, 1, -1000);
        Runs.bounds(Runs.of(roof), "swap(0, 1, #)", 0, years - 1, -2);
    }

    /** chance, mean: "a YEAR (1 .. 8, one there is)", for each number of years. */
    private static void yearsOfChance() {
        for (int years = 1; years <= 12; years++) {
            Supplier<HassockRoof> made = Runs.of(Check.SMALL.replace("years 3", "years " + years));
            Runs.bounds(made, "chance(1, 1, #, 1)", 1, Math.min(years, 8), -2);
            Runs.bounds(made, "mean(1, #, 1)", 1, Math.min(years, 8), -2);
            Runs.bounds(made, "at(1, #)", 0, years, -2);
            Runs.bounds(made, "swap(0, 1, #)", 0, years - 1, -2);
        }
    }
}

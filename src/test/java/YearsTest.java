/** Promises 18 to 31: who is where year by year, joy, hopes, envy. */
final class YearsTest {
    public static void main(String[] args) {
        places();
        joys();
        hopes();
        laws();
        noLookers();
        wrongOnes();
        trades();
        Check.finish();
    }

    private static void places() {
        HassockRoof x = Check.told(Check.SMALL);
        int[][] at = {{0, 1, 2, 0}, {1, 2, 0, 1}};
        int[][] who = {{0, -1, 1, 0}, {1, 0, -1, 1}, {-1, 1, 0, -1}};
        for (int y = 0; y <= 3; y++) {
            Check.due("at(0, " + y + ")", x.at(0, y), at[0][y]);
            Check.due("at(1, " + y + ")", x.at(1, y), at[1][y]);
            for (int p = 0; p < 3; p++) {
                Check.due("who(" + p + ", " + y + ")", x.who(p, y), who[p][y]);
            }
        }
        Check.due("round", x.round(), 3);
        Check.due("walks(0)", x.walks(0), 7);
        Check.tell(x, Check.SMALL.replace("years 3", "years 2"));
        Check.due("not round", x.round(), -1);
        Check.tell(x, Check.SMALL.replace("years 3", "years 1"));
        Check.due("walks(1)", x.walks(1), 6);
        x.swap(0, 1, 0);
        Check.due("at behind exchanges", x.at(0, 0), 1);
        Check.due("who behind exchanges", x.who(1, 0), 0);
        Check.due("walks behind exchanges", x.walks(1), 3);
    }

    private static void joys() {
        HassockRoof x = Check.told(Check.SMALL);
        int[][] joy = {{2, 12, 0, 0}, {14, 0, 0, 12}};
        int[][] seen = {{4, 7, 7, 7}, {7, 7, 7, 7}};
        for (int y = 0; y <= 3; y++) {
            for (int l = 0; l < 2; l++) {
                Check.due("joy(" + l + ", " + y + ")", x.joy(l, y), joy[l][y]);
                Check.due("seen(" + l + ", " + y + ")", x.seen(l, y), seen[l][y]);
            }
        }
        Check.due("life(0)", x.life(0), 14);
        Check.due("life(1)", x.life(1), 26);
        Check.due("sad", x.sad(), 0);
        Check.due("feast", x.feast(), 0);
        x.swap(0, 1, 0);
        Check.due("joy behind exchanges", x.joy(0, 0), 14);
        Check.due("life(0) then", x.life(0), 14 + 0 + 0 + 12);
        Check.due("life(1) then", x.life(1), 2 + 12 + 0 + 0);
        Check.due("sad then", x.sad(), 1);
        // One alone from place 0: joys 2, 12, 0, 0, 12.
        String alone = Check.SMALL.replace("looker at 1 hopes 1;", "");
        Check.tell(x, alone.replace("years 3", "years 4"));
        Check.due("feast is the first of several", x.feast(), 1);
        Check.tell(x, alone.replace("years 3", "years 1"));
        Check.due("feast is the last year", x.feast(), 1);
    }

    private static void hopes() {
        HassockRoof x = Check.told(Check.SMALL);
        int[] glad = {2, 1, 1, 2};
        for (int y = 0; y <= 3; y++) {
            Check.due("glad(" + y + ")", x.glad(y), glad[y]);
        }
        Check.due("drill(0)", x.drill(0), 1);
        Check.due("drill(1)", x.drill(1), 0);
        Check.due("often(0)", x.often(0), 2);
        Check.due("often(1)", x.often(1), 2);
        Check.due("envies(0, 0)", x.envies(0, 0), 2);
        Check.due("envies(1, 0)", x.envies(1, 0), 0);
        Check.due("envies(1, 1)", x.envies(1, 1), 1);
        x = Check.told("roof years 2 law 0 odds 0;place 0 0;place 0 4;mark 0 2 worth 0;flue 0 1;flue 0 3;"
                + "looker at 0 hopes 0;looker at 1 hopes 0;");
        Check.due("never", x.drill(0), -1);
        Check.due("not often", x.often(0), 0);
        Check.due("nobody is glad", x.glad(2), 0);
        Check.due("sad of equals", x.sad(), 0);
        Check.due("as much is no envy", x.envies(0, 0), 0);
    }

    private static final String FOUR = "place 0 0;place 2 0;place 4 0;place 6 0;mark 0 2 worth 8;"
            + "mark 2 2 worth 4;mark 4 2 worth 4;mark 6 2 worth 2;";
    /** Marks 0 and 2 are seen from places 1 and 3, marks 1 and 3 from places 0 and 2. */
    private static final String HIDDEN = FOUR + "flue 0 1;flue 2 1;flue 4 1;flue 6 1;";

    private static void row(HassockRoof x, int year, int... want) {
        for (int l = 0; l < want.length; l++) {
            Check.due("at(" + l + ", " + year + ")", x.at(l, year), want[l]);
        }
    }

    private static void laws() {
        HassockRoof x = Check.told("roof years 2 law 1 odds 0;" + HIDDEN
                + "looker at 0 hopes 0;looker at 2 hopes 0;");
        row(x, 1, 3, 1);
        row(x, 2, 2, 0);
        x = Check.told("roof years 2 law 2 odds 0;place 0 0;place 0 2;place 0 4;place 9 9;mark 1 0 worth 5;"
                + "flue 5 6;looker at 2 hopes 0;looker at 1 hopes 0;looker at 0 hopes 0;");
        // All worths alike: the most is looker 0, the least of the others looker 1.
        row(x, 1, 1, 2, 0);
        row(x, 2, 2, 1, 0);
        x = Check.told("roof years 2 law 2 odds 0;place 0 0;mark 1 0 worth 5;looker at 0 hopes 0;");
        row(x, 2, 0);
        // Law 2 by worth: place 0 sees nothing, place 1 one mark, place 2 both.
        x = Check.told("roof years 2 law 2 odds 0;place 0 0;place 0 5;place 0 9;mark 3 0 worth 5;mark 0 3 worth 1;"
                + "flue 1 0;flue 0 1;flue 0 4;flue 3 2;looker at 1 hopes 0;looker at 2 hopes 0;looker at 0 hopes 0;");
        Check.due("worth(0)", x.worth(0), 0);
        Check.due("worth(1)", x.worth(1), 5);
        Check.due("worth(2)", x.worth(2), 5);
        // Most: looker 0 (of two alike), least of the others: looker 2.
        row(x, 1, 0, 2, 1);
        // Then the most is looker 1 at place 2, the least looker 0.
        row(x, 2, 2, 0, 1);
        x = Check.told("roof years 3 law 3 odds 0;" + HIDDEN
                + "looker at 0 hopes 0;looker at 1 hopes 0;looker at 2 hopes 2;looker at 3 hopes 3;");
        // Lookers 0, 2 and 3 do not see: they go round places 0, 2, 3; looker 1 stays.
        row(x, 1, 2, 1, 3, 0);
        Check.due("all but one are glad, and he is alone", x.glad(1), 14);
        row(x, 3, 2, 1, 3, 0);
        Check.due("never as at first", x.round(), -1);
    }

    private static void noLookers() {
        HassockRoof x = Check.told(Check.BARE + "place 0 0;");
        Check.due("sad", x.sad(), -1);
        Check.due("round", x.round(), 1);
        Check.due("feast", x.feast(), 0);
        Check.due("glad", x.glad(1), 0);
        Check.due("trade", x.trade(1), -1);
        Check.due("who", x.who(0, 1), -1);
    }

    private static void wrongOnes() {
        HassockRoof x = Check.told(Check.SMALL);
        int[][] bad = {{-1, 0}, {2, 0}, {0, -1}, {0, 4}, {Integer.MAX_VALUE, Integer.MIN_VALUE}};
        for (int[] b : bad) {
            String of = "(" + b[0] + ", " + b[1] + ")";
            Check.due("at" + of, x.at(b[0], b[1]), -2);
            Check.due("seen" + of, x.seen(b[0], b[1]), -2);
            Check.due("joy" + of, x.joy(b[0], b[1]), -2);
            Check.due("envies" + of, x.envies(b[0], b[1]), -2);
        }
        Check.due("who(3, 0)", x.who(3, 0), -2);
        Check.due("who(-1, 0)", x.who(-1, 0), -2);
        Check.due("who(0, 4)", x.who(0, 4), -2);
        Check.due("who(0, -1)", x.who(0, -1), -2);
        for (int l = -1; l <= 2; l += 3) {
            Check.due("life", x.life(l), -2);
            Check.due("drill", x.drill(l), -2);
            Check.due("often", x.often(l), -2);
            Check.due("walks", x.walks(l), -2);
        }
        for (int y = -1; y <= 4; y += 5) {
            Check.due("glad", x.glad(y), -2);
            Check.due("trade", x.trade(y), -2);
        }
    }

    private static void trades() {
        HassockRoof x = Check.told(Check.SMALL);
        Check.due("one sees already", x.trade(0), -1);
        x = Check.told("roof years 1 law 3 odds 0;" + HIDDEN
                + "looker at 0 hopes 0;looker at 1 hopes 0;looker at 2 hopes 2;looker at 3 hopes 3;");
        Check.due("the first of 03 and 23", x.trade(0), 3);
        Check.due("none needs to", x.trade(1), -1);
        x = Check.told("roof years 1 law 0 odds 0;" + HIDDEN
                + "looker at 0 hopes 1;looker at 1 hopes 1;looker at 2 hopes 2;looker at 3 hopes 3;");
        Check.due("1 and 2", x.trade(0), 12);
    }
}

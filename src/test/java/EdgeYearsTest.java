/** Promises 18 to 31 at their edges: the first YEAR and the last, one place, no lookers and six, ties. */
final class EdgeYearsTest {
    public static void main(String[] args) {
        fromTheLastToTheFirst();
        fromTheFirstToTheLast();
        onePlace();
        mostAndLeastChange();
        oneAloneStays();
        ofSeveralTheLeastNumber();
        thoseWhoSeeStay();
        thoseWhoDoNotGoRound();
        firstAndLastYear();
        nobodyIsThere();
        seenUpToAYear();
        joyOfWhatIsNew();
        saddestOfSeveral();
        neverOrAtOnce();
        asOftenAsCanBe();
        gladNoneAndAll();
        roundInTheLastYear();
        walksOfOneWhoStays();
        feastOfSeveral();
        envyOfMoreAlone();
        tradeOfTheFirstTwo();
        tradeOfNone();
        noLookers();
        Check.finish();
    }

    private static void row(HassockRoof x, int year, int... want) {
        for (int l = 0; l < want.length; l++) {
            Check.due("at(" + l + ", " + year + ")", x.at(l, year), want[l]);
            Check.due("who(" + want[l] + ", " + year + ")", x.who(want[l], year), l);
        }
    }

    private static void fromTheLastToTheFirst() {
        HassockRoof x = Check.told(Cells.of(12, 0, 0, "at 5 hopes 0", "at 0 hopes 0"));
        for (int y = 0; y <= 12; y++) {
            row(x, y, (5 + y) % 6, y % 6);
        }
        x = Check.told(Cells.of(12, 0, 0, Cells.six(0)));
        row(x, 1, 1, 2, 3, 4, 5, 0);
        row(x, 12, 0, 1, 2, 3, 4, 5);
    }

    private static void fromTheFirstToTheLast() {
        HassockRoof x = Check.told(Cells.of(12, 1, 0, "at 0 hopes 0", "at 5 hopes 0"));
        for (int y = 0; y <= 12; y++) {
            row(x, y, (12 - y) % 6, (17 - y) % 6);
        }
        x = Check.told(Cells.of(12, 1, 0, Cells.six(0)));
        row(x, 1, 5, 0, 1, 2, 3, 4);
    }

    private static void onePlace() {
        for (int law = 0; law < 4; law++) {
            HassockRoof x = Check.told(BoundsTest.ONE.replace("law 2", "law " + law).replace("years 1", "years 12"));
            row(x, 0, 0);
            row(x, 1, 0);
            row(x, 12, 0);
            Runs.run(x, "round() -> 1", "walks(0) -> 1", "joy(0, 0) -> 7", "joy(0, 1) -> 0", "life(0) -> 7", "often(0) -> 13");
        }
        // Two places: the next one is the one ahead.
        for (int law = 0; law < 2; law++) {
            HassockRoof x = Check.told("roof years 2 law " + law + " odds 0;place 0 0;place 1 0;mark 9 9 worth 1;"
                    + "looker at 1 hopes 0;looker at 0 hopes 0;");
            row(x, 1, 0, 1);
            row(x, 2, 1, 0);
        }
    }

    private static void mostAndLeastChange() {
        HassockRoof x = Check.told(Cells.of(3, 2, 0, "at 2 hopes 0", "at 4 hopes 0", "at 1 hopes 0", "at 3 hopes 0"));
        row(x, 0, 2, 4, 1, 3);
        row(x, 1, 2, 1, 4, 3);
        row(x, 2, 2, 4, 1, 3);
        row(x, 3, 2, 1, 4, 3);
        Runs.run(x, "round() -> 2");
    }

    private static void oneAloneStays() {
        HassockRoof x = Check.told(Cells.of(12, 2, 0, "at 3 hopes 0"));
        row(x, 1, 3);
        row(x, 12, 3);
        Runs.run(x, "round() -> 1");
        // Two are enough to change.
        x = Check.told(Cells.of(1, 2, 0, "at 3 hopes 0", "at 0 hopes 0"));
        row(x, 1, 0, 3);
    }

    private static void ofSeveralTheLeastNumber() {
        // All alike: looker 0 has most, looker 1 least of all others.
        HassockRoof x = Check.told(Cells.worth(2, 2, 0, new int[7], Cells.six(0)));
        row(x, 1, 1, 0, 2, 3, 4, 5);
        row(x, 2, 0, 1, 2, 3, 4, 5);
        // Most: lookers 1 and 3 alike; least: lookers 2 and 4 alike.
        x = Check.told(Cells.worth(1, 2, 0, new int[] {5, 9, 1, 9, 1, 5, 0}, Cells.six(0)));
        row(x, 1, 0, 2, 1, 3, 4, 5);
        // The one of most is not the least too, even if all others have as much.
        x = Check.told(Cells.worth(1, 2, 0, new int[] {5, 5, 5, 5, 5, 5, 0}, "at 4 hopes 0", "at 2 hopes 0"));
        row(x, 1, 2, 4);
    }

    private static void thoseWhoSeeStay() {
        HassockRoof x = Check.told(Cells.of(12, 3, 0, Cells.six(0)));
        row(x, 1, 0, 1, 2, 3, 4, 5);
        row(x, 12, 0, 1, 2, 3, 4, 5);
        // One who does not is alone of these, and stays too.
        x = Check.told(Cells.of(12, 3, 0, "at 0 hopes 0", "at 1 hopes 1", "at 2 hopes 6"));
        row(x, 12, 0, 1, 2);
        Runs.run(x, "glad(12) -> 3");
    }

    private static void thoseWhoDoNotGoRound() {
        // Lookers at 5, 1 and 3 do not see: 5 goes to 1, 1 to 3, 3 to 5; the one at 2 stays.
        HassockRoof x = Check.told(Cells.of(3, 3, 0, "at 5 hopes 6", "at 2 hopes 2", "at 1 hopes 6", "at 3 hopes 6"));
        row(x, 1, 1, 2, 3, 5);
        row(x, 2, 3, 2, 5, 1);
        row(x, 3, 5, 2, 1, 3);
        // Who comes to what he hopes for stays from then on: 5 goes to 1 and stays; 1 and 3 change.
        x = Check.told(Cells.of(3, 3, 0, "at 5 hopes 1", "at 1 hopes 6", "at 3 hopes 6"));
        row(x, 1, 1, 3, 5);
        row(x, 2, 1, 5, 3);
        row(x, 3, 1, 3, 5);
        // Six who do not see go as by 0.
        x = Check.told(Cells.of(1, 3, 0, "at 0 hopes 6", "at 1 hopes 6", "at 2 hopes 6", "at 3 hopes 6", "at 4 hopes 6",
                "at 5 hopes 6"));
        row(x, 1, 1, 2, 3, 4, 5, 0);
    }

    /** YEARS 0 .. years are asked, and none beyond. */
    private static void firstAndLastYear() {
        for (int years = 1; years <= 12; years++) {
            HassockRoof x = Check.told(Cells.of(years, 0, 0, "at 0 hopes 0"));
            Runs.run(x, "at(0, 0) -> 0", "at(0, " + years + ") -> " + years % 6, "at(0, " + (years + 1) + ") -> -2",
                    "who(" + years % 6 + ", " + years + ") -> 0", "who(0, " + (years + 1) + ") -> -2",
                    "joy(0, " + years + ") -> " + Cells.WORTH[years % 6], "joy(0, " + (years + 1) + ") -> -2",
                    "glad(" + years + ") -> " + (years % 6 == 0 ? 1 : 0), "glad(" + (years + 1) + ") -> -2",
                    "trade(" + years + ") -> -1", "trade(" + (years + 1) + ") -> -2", "at(0, -1) -> -2");
        }
    }

    private static void nobodyIsThere() {
        HassockRoof x = Check.told(Cells.of(1, 0, 0, "at 5 hopes 0"));
        Runs.run(x, "who(5, 0) -> 0", "who(0, 0) -> -1", "who(5, 1) -> -1", "who(0, 1) -> 0", "who(6, 0) -> -2",
                "who(-1, 0) -> -2");
    }

    private static void seenUpToAYear() {
        HassockRoof x = Check.told(Cells.of(12, 0, 0, "at 4 hopes 0"));
        int[] seen = {16, 48, 49, 51, 55, 63, 63};
        for (int y = 0; y <= 12; y++) {
            Runs.run(x, "seen(0, " + y + ") -> " + (y < 7 ? seen[y] : 63));
        }
        Runs.run(x, "seen(0, 13) -> -2", "seen(0, -1) -> -2", "seen(1, 0) -> -2");
    }

    private static void joyOfWhatIsNew() {
        // Cells 0 and 1 are one: between them nothing is new; back from 2 all of it is new again.
        HassockRoof x = Check.told(Cells.of(7, 0, 0, "at 0 hopes 0"));
        x.clear(0);
        int[] joy = {30, 0, 30, 40, 50, 60, 30, 0};
        for (int y = 0; y <= 7; y++) {
            Runs.run(x, "joy(0, " + y + ") -> " + joy[y]);
        }
        Runs.run(x, "life(0) -> 240");
        // One new mark of two: 2 is seen anew from cell 2, which sees 1 and 2 together.
        x = Check.told(Cells.of(2, 1, 0, "at 2 hopes 0"));
        x.clear(1);
        Runs.run(x, "joy(0, 0) -> 50", "joy(0, 1) -> 0", "joy(0, 2) -> 10", "life(0) -> 60");
        // All worth 99 from one place: the most.
        x = Check.told(Cells.worth(12, 0, 0, new int[] {99, 99, 99, 99, 99, 99, 99}, "at 0 hopes 0"));
        Runs.run(x, "life(0) -> 1287", "by(0) -> 1287");
    }

    private static void saddestOfSeveral() {
        HassockRoof x = Check.told(Cells.of(1, 3, 0, "at 5 hopes 5", "at 2 hopes 2", "at 3 hopes 3"));
        Runs.run(x, "sad() -> 1", "rate(3, 30) -> 40", "sad() -> 1", "rate(3, 29) -> 30", "sad() -> 2",
                "rate(5, 29) -> 60", "sad() -> 0", "rate(5, 30) -> 29", "sad() -> 2");
        x = Check.told(Cells.worth(1, 3, 0, new int[7], Cells.six(0)));
        Runs.run(x, "sad() -> 0", "life(5) -> 0");
    }

    private static void neverOrAtOnce() {
        HassockRoof x = Check.told(Cells.of(5, 0, 0, "at 0 hopes 0", "at 1 hopes 0", "at 2 hopes 6", "at 3 hopes 2"));
        // From place 1 it takes 5 years to place 0: the last one; from place 3 five to place 2.
        Runs.run(x, "drill(0) -> 0", "drill(1) -> 5", "drill(2) -> -1", "drill(3) -> 5", "often(0) -> 1",
                "often(1) -> 1", "often(2) -> 0");
        x = Check.told(Cells.of(4, 0, 0, "at 1 hopes 0"));
        Runs.run(x, "drill(0) -> -1", "often(0) -> 0");
    }

    private static void asOftenAsCanBe() {
        HassockRoof x = Check.told(Cells.of(12, 3, 0, "at 2 hopes 2"));
        Runs.run(x, "often(0) -> 13", "drill(0) -> 0", "walks(0) -> 4");
        x = Check.told(Cells.of(1, 3, 0, "at 2 hopes 2"));
        Runs.run(x, "often(0) -> 2");
    }

    private static void gladNoneAndAll() {
        HassockRoof x = Check.told(Cells.of(6, 0, 0, Cells.six(1)));
        Runs.run(x, "glad(0) -> 0", "glad(1) -> 63", "glad(2) -> 0", "glad(6) -> 0", "glad(7) -> -2", "glad(-1) -> -2");
    }

    private static void roundInTheLastYear() {
        Runs.run(Check.told(Cells.of(5, 0, 0, "at 0 hopes 0")), "round() -> -1");
        Runs.run(Check.told(Cells.of(6, 0, 0, "at 0 hopes 0")), "round() -> 6");
        Runs.run(Check.told(Cells.of(12, 0, 0, "at 0 hopes 0")), "round() -> 6");
        Runs.run(Check.told(Cells.of(1, 3, 0, "at 0 hopes 0")), "round() -> 1");
        // By an exchange in year 0 they are elsewhere then: behind it counts.
        HassockRoof x = Check.told(Cells.of(2, 3, 0, "at 0 hopes 0", "at 1 hopes 1"));
        Runs.run(x, "round() -> 1", "swap(0, 1, 0) -> 0", "at(0, 0) -> 1", "at(0, 1) -> 0", "round() -> -1",
                "swap(0, 1, 1) -> 0", "at(0, 1) -> 1", "round() -> 1");
    }

    private static void walksOfOneWhoStays() {
        HassockRoof x = Check.told(Cells.of(12, 3, 0, "at 5 hopes 5"));
        Runs.run(x, "walks(0) -> 32");
        x = Check.told(Cells.of(4, 0, 0, "at 5 hopes 5"));
        Runs.run(x, "walks(0) -> 47");
    }

    private static void feastOfSeveral() {
        // Joys 60, 10, 20, 30, 40, 50, 60.
        HassockRoof x = Check.told(Cells.of(6, 0, 0, "at 5 hopes 0"));
        Runs.run(x, "feast() -> 0", "rate(4, 61) -> 50", "feast() -> 5", "rate(5, 62) -> 60", "feast() -> 0");
        x = Check.told(Cells.of(6, 0, 0, "at 0 hopes 0"));
        Runs.run(x, "feast() -> 5", "rate(0, 60) -> 10", "feast() -> 0");
        x = Check.told(Cells.of(5, 0, 0, "at 0 hopes 0"));
        Runs.run(x, "feast() -> 5");
        x = Check.told(Cells.of(1, 0, 0, "at 0 hopes 0"));
        Runs.run(x, "feast() -> 1");
        // Of all together: 60 and 10, 10 and 20, 20 and 30, 30 and 40, though each alone has most in another year.
        x = Check.told(Cells.of(3, 0, 0, "at 5 hopes 0", "at 0 hopes 0"));
        Runs.run(x, "feast() -> 0", "rate(5, 59) -> 60", "feast() -> 3");
        x = Check.told(Cells.of(2, 0, 0, "at 0 hopes 0", "at 2 hopes 0", "at 4 hopes 0"));
        Runs.run(x, "feast() -> 1", "rate(3, 0) -> 40", "feast() -> 0");
        x = Check.told(Cells.worth(12, 0, 0, new int[7], "at 0 hopes 0"));
        Runs.run(x, "feast() -> 0");
    }

    private static void envyOfMoreAlone() {
        HassockRoof x = Check.told(Cells.of(1, 3, 0, Cells.six(0)));
        for (int l = 0; l < 6; l++) {
            Runs.run(x, "envies(" + l + ", 0) -> " + (63 & ~((2 << l) - 1)));
        }
        Runs.run(x, "rate(1, 60) -> 20", "envies(1, 1) -> 0", "envies(5, 1) -> 0", "envies(0, 1) -> 62",
                "rate(1, 59) -> 60", "envies(1, 1) -> 32", "envies(0, 2) -> -2", "envies(6, 0) -> -2");
        x = Check.told(Cells.worth(1, 3, 0, new int[7], Cells.six(0)));
        Runs.run(x, "envies(0, 0) -> 0", "envies(5, 0) -> 0");
    }

    private static void tradeOfTheFirstTwo() {
        Runs.run(Check.told(Cells.of(1, 0, 0, "at 0 hopes 1", "at 1 hopes 0")), "trade(0) -> 1");
        Runs.run(Check.told(Cells.of(1, 0, 0, "at 0 hopes 1", "at 1 hopes 0", "at 2 hopes 3", "at 3 hopes 2")),
                "trade(0) -> 1");
        Runs.run(Check.told(Cells.of(1, 0, 0, "at 0 hopes 0", "at 1 hopes 1", "at 2 hopes 2", "at 3 hopes 3",
                "at 4 hopes 5", "at 5 hopes 4")), "trade(0) -> 45");
        Runs.run(Check.told(Cells.of(1, 0, 0, "at 0 hopes 5", "at 1 hopes 4", "at 2 hopes 3", "at 3 hopes 2",
                "at 4 hopes 1", "at 5 hopes 0")), "trade(0) -> 5", "trade(1) -> 4");
    }

    private static void tradeOfNone() {
        // One of them sees already, one would not see there, one alone.
        HassockRoof x = Check.told(Cells.of(1, 0, 0, "at 0 hopes 1", "at 1 hopes 0"));
        Runs.run(x, "clear(0) -> 1", "trade(0) -> -1", "undo() -> 0", "trade(0) -> 1");
        Runs.run(Check.told(Cells.of(1, 0, 0, "at 0 hopes 1", "at 1 hopes 1")), "trade(0) -> -1");
        Runs.run(Check.told(Cells.of(1, 0, 0, "at 0 hopes 1", "at 1 hopes 2")), "trade(0) -> -1");
        Runs.run(Check.told(Cells.of(1, 0, 0, "at 0 hopes 1")), "trade(0) -> -1");
        Runs.run(Check.told(Cells.of(1, 0, 0, Cells.six(0))), "trade(0) -> -1");
        Runs.run(Check.told(Cells.of(1, 0, 0, "at 0 hopes 6", "at 1 hopes 6")), "trade(0) -> -1");
        // With nobody at the other place, who would hope for the other mark.
        Runs.run(Check.told(Check.BARE + "place 0 0;place 3 0;mark 4 0 worth 5;mark 1 0 worth 5;flue 2 0;"
                + "looker at 1 hopes 1;"), "sees(0) -> 2", "sees(1) -> 1", "trade(0) -> -1");
    }

    private static void noLookers() {
        for (String text : new String[] {Check.BARE, Cells.of(12, 2, 5), Cells.of(12, 3, 5)}) {
            HassockRoof x = Check.told(text);
            Runs.run(x, "sad() -> -1", "round() -> 1", "feast() -> 0", "glad(0) -> 0", "glad(1) -> 0", "trade(0) -> -1",
                    "at(0, 0) -> -2", "life(0) -> -2");
        }
        Runs.run(Check.told(Cells.of(1, 0, 0)), "who(5, 1) -> -1");
    }
}

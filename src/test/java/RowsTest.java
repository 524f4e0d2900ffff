/** Promises 32 to 39: rows by which most see their hope, shifts by empty places. */
final class RowsTest {
    public static void main(String[] args) {
        rosters();
        fair();
        shifts();
        ring();
        wrongSlots();
        noLookers();
        Check.finish();
    }

    private static void rosters() {
        HassockRoof x = Check.told(Check.SMALL);
        Check.due("roster", x.roster(), 2);
        Check.due("rosters", x.rosters(), 1);
        Check.due("put(0)", x.put(0), 2);
        Check.due("put(1)", x.put(1), 1);
        Check.due("put(2)", x.put(2), -2);
        Check.due("put(-1)", x.put(-1), -2);
        // Nobody sees anything: every row is one of the best, the least is 0, 1.
        x = Check.told("roof years 1 law 0 odds 0;place 0 0;place 4 0;place 8 0;mark 2 0 worth 3;flue 1 0;flue 3 0;"
                + "looker at 2 hopes 0;looker at 1 hopes 0;");
        Check.due("roster", x.roster(), 0);
        Check.due("rosters", x.rosters(), 6);
        Check.due("put(0)", x.put(0), 0);
        Check.due("put(1)", x.put(1), 1);
        x.clear(0);
        Check.due("one sees from place 0", x.roster(), 1);
        Check.due("rows 01, 02, 10, 20", x.rosters(), 4);
        StringBuilder six = new StringBuilder("roof years 1 law 0 odds 0;");
        for (int p = 0; p < 6; p++) {
            six.append("place ").append(p).append(" 0;");
        }
        six.append("mark 9 9 worth 3;");
        for (int l = 0; l < 6; l++) {
            six.append("looker at ").append(5 - l).append(" hopes 0;");
        }
        x = Check.told(six.toString());
        Check.due("roster", x.roster(), 6);
        Check.due("rosters", x.rosters(), 720);
        Check.due("put(5)", x.put(5), 5);
        Check.due("reach", x.reach(), 1);
        Check.due("far", x.far(), 0);
    }

    private static void fair() {
        HassockRoof x = Check.told(Check.SMALL);
        Check.due("fair of two", x.fair(), 9);
        x = Check.told(Check.SMALL + "looker at 2 hopes 2;");
        Check.due("fair of three", x.fair(), 2);
        x = Check.told(Check.SMALL.replace("looker at 1 hopes 1;", ""));
        Check.due("fair of one", x.fair(), 14);
    }

    private static void goal(HassockRoof x, int shifts, int first, long... places) {
        for (int width = 0; width < 4; width++) {
            Check.fill(x, 1, width, places);
            Check.due("shifts", x.shifts(1), shifts);
            Check.due("first", x.first(1), first);
        }
    }

    private static void shifts() {
        HassockRoof x = Check.told(Check.SMALL);
        goal(x, 0, -1, 0, 1);
        goal(x, 1, 1, 0, 2);
        goal(x, 2, 1, 1, 2);
        goal(x, -1, -1, 2, 1);
        goal(x, -1, -1, 1, 0);
        Check.due("reach", x.reach(), 3);
        Check.due("far", x.far(), 2);
        // Acts do not change where they are told.
        x.swap(0, 1, 0);
        goal(x, 1, 1, 0, 2);
        Check.due("reach", x.reach(), 3);
    }

    /** Two on a ring of four, where each may go first. */
    private static void ring() {
        HassockRoof x = Check.told("roof years 1 law 0 odds 0;place 0 0;place 2 0;place 2 2;place 0 2;"
                + "mark 9 9 worth 1;way 0 1;way 1 2;way 2 3;way 3 0;looker at 0 hopes 0;looker at 2 hopes 0;");
        goal(x, 2, 0, 1, 3);
        goal(x, 4, 0, 2, 0);
        goal(x, 1, 1, 0, 1);
        goal(x, 1, 0, 3, 2);
        Check.due("reach", x.reach(), 12);
        Check.due("far", x.far(), 4);
        // A star: the middle must be left free, so that the other one goes first.
        x = Check.told("roof years 1 law 0 odds 0;place 0 0;place 2 0;place 4 0;place 6 0;mark 9 9 worth 1;"
                + "way 1 0;way 2 1;way 1 3;looker at 0 hopes 0;looker at 1 hopes 0;");
        goal(x, 3, 1, 3, 2);
        goal(x, 2, 1, 1, 3);
        goal(x, 6, 1, 1, 0);
    }

    private static void wrongSlots() {
        HassockRoof x = new HassockRoof();
        Check.due("no roof, nothing held", x.shifts(0), -2);
        Check.tell(x, Check.SMALL);
        Check.due("shifts(-1)", x.shifts(-1), -2);
        Check.due("shifts(4)", x.shifts(4), -2);
        Check.due("first(4)", x.first(4), -2);
        Check.due("shifts of nothing", x.shifts(0), -6);
        Check.due("first of nothing", x.first(0), -6);
        goal(x, -2, -2, 1);
        goal(x, -2, -2, 0, 1, 2);
        goal(x, -2, -2);
        goal(x, -2, -2, 1, 1);
        goal(x, -2, -2, 0, 3);
        goal(x, -2, -2, -1, 0);
        Check.fill(x, 0, 0, 256, 258);
        Check.due("cut to 0, 2", x.shifts(0), 1);
        Check.fill(x, 0, 3, 1L << 32, 2);
        Check.due("a wide number is no place", x.shifts(0), -2);
    }

    private static void noLookers() {
        HassockRoof x = Check.told(Check.BARE);
        Check.due("roster", x.roster(), 0);
        Check.due("rosters", x.rosters(), 1);
        Check.due("fair", x.fair(), -1);
        Check.due("reach", x.reach(), 1);
        Check.due("far", x.far(), 0);
        goal(x, 0, -1);
    }
}

/** Promises 11 to 17 and 40 to 44: what is seen from where, lots, shares, watches. */
final class SightTest {
    public static void main(String[] args) {
        small();
        lines();
        nothingSeen();
        lotsAndShares();
        sets();
        Check.finish();
    }

    private static void small() {
        HassockRoof x = Check.told(Check.SMALL);
        int[] sees = {4, 7, 5};
        int[] from = {6, 2, 7};
        int[] worth = {2, 14, 9};
        for (int i = 0; i < 3; i++) {
            Check.due("sees(" + i + ")", x.sees(i), sees[i]);
            Check.due("from(" + i + ")", x.from(i), from[i]);
            Check.due("worth(" + i + ")", x.worth(i), worth[i]);
        }
        Check.due("hides(0, 0)", x.hides(0, 0), 0);
        Check.due("hides(0, 1)", x.hides(0, 1), 1);
        Check.due("hides(1, 0)", x.hides(1, 0), -1);
        Check.due("hides(3, 0)", x.hides(3, 0), -2);
        Check.due("hides(0, 3)", x.hides(0, 3), -2);
        Check.due("hides(-1, 0)", x.hides(-1, 0), -2);
        for (int bad = -1; bad <= 3; bad += 4) {
            Check.due("sees(" + bad + ")", x.sees(bad), -2);
            Check.due("from(" + bad + ")", x.from(bad), -2);
            Check.due("worth(" + bad + ")", x.worth(bad), -2);
        }
        Check.due("blind", x.blind(), 0);
        Check.due("lost", x.lost(), 0);
        Check.due("best", x.best(), 1);
        x.clear(0);
        Check.due("sees(0) without the flue", x.sees(0), 5);
        Check.due("hides(0, 0) without the flue", x.hides(0, 0), -1);
        Check.due("worth(0) without the flue", x.worth(0), 9);
    }

    private static void lines() {
        // Flues on the line behind the mark, behind the place, near the line, and two between.
        HassockRoof x = Check.told("roof years 1 law 0 odds 0;place 6 3;mark 12 6 worth 9;"
                + "flue 14 7;flue 4 2;flue 9 4;");
        Check.due("not between", x.sees(0), 1);
        x = Check.told("roof years 1 law 0 odds 0;place 6 3;mark 12 6 worth 9;"
                + "flue 0 0;flue 10 5;flue 8 4;");
        Check.due("between", x.sees(0), 0);
        Check.due("the first that hides", x.hides(0, 0), 1);
        x.clear(1);
        Check.due("the first of those that stand", x.hides(0, 0), 2);
        x.clear(2);
        Check.due("none stands between", x.sees(0), 1);
        // Other marks and places hide nothing.
        x = Check.told("roof years 1 law 0 odds 0;place 0 0;place 1 1;mark 2 2 worth 1;mark 3 3 worth 2;");
        Check.due("through marks and places", x.sees(0), 3);
        // Downhill and upright.
        x = Check.told("roof years 1 law 0 odds 0;place 30 0;mark 0 30 worth 1;mark 30 30 worth 1;"
                + "flue 15 15;flue 30 29;");
        Check.due("downhill, upright", x.sees(0), 0);
        Check.due("hides", x.hides(0, 1), 1);
    }

    private static void nothingSeen() {
        HassockRoof x = Check.told("roof years 1 law 0 odds 0;place 0 0;place 4 0;mark 2 0 worth 0;"
                + "mark 0 2 worth 3;flue 1 0;flue 3 0;flue 0 1;flue 2 1;");
        Check.due("blind", x.blind(), 3);
        Check.due("lost", x.lost(), 3);
        Check.due("best of several", x.best(), 0);
        Check.due("watch", x.watch(), 0);
        Check.due("watches", x.watches(), 0);
        x.clear(0);
        Check.due("a mark of no worth is seen", x.blind(), 2);
        Check.due("lost", x.lost(), 2);
        Check.due("worth", x.worth(0), 0);
        x = Check.told(Check.BARE);
        Check.due("blind of none", x.blind(), 0);
        Check.due("lost of none", x.lost(), 0);
        Check.due("best of none", x.best(), -1);
        Check.due("watch of none", x.watch(), 0);
        Check.due("watches of none", x.watches(), 0);
        Check.due("all(0)", x.all(0), 0);
        Check.due("all(1)", x.all(1), -2);
    }

    private static void lotsAndShares() {
        HassockRoof x = Check.told(Check.SMALL);
        int[][] lot = {{0, 1, 1}, {0, 1, 1}};
        int[][] lotBelow = {{1, 2, 2}, {1, 2, 2}};
        for (int l = 0; l < 2; l++) {
            for (int p = 0; p < 3; p++) {
                Check.due("lot above", x.lot(l, p, 0), lot[l][p]);
                Check.due("lot below", x.lot(l, p, 1), lotBelow[l][p]);
            }
        }
        Check.due("lot(2, 0, 0)", x.lot(2, 0, 0), -2);
        Check.due("lot(0, 3, 0)", x.lot(0, 3, 0), -2);
        Check.due("lot(0, 0, 2)", x.lot(0, 0, 2), -2);
        Check.due("lot(0, 0, -1)", x.lot(0, 0, -1), -2);
        int[] above = {2, 55, 25};
        int[] below = {3, 6, 6};
        for (int p = 0; p < 3; p++) {
            Check.due("share above", x.share(p, 0), above[p]);
            Check.due("share below", x.share(p, 1), below[p]);
        }
        Check.due("share(3, 0)", x.share(3, 0), -2);
        Check.due("share(0, 2)", x.share(0, 2), -2);
        // One of three takes the only good place; the others the next by worth.
        x = Check.told("roof years 1 law 0 odds 0;place 0 0;place 2 0;place 4 0;mark 0 9 worth 5;"
                + "mark 5 9 worth 5;flue 1 1;looker at 0 hopes 0;looker at 1 hopes 0;looker at 2 hopes 0;");
        Check.due("a third above", x.lot(0, 0, 0), 1);
        Check.due("a third below", x.lot(0, 0, 1), 3);
        x = Check.told("roof years 1 law 0 odds 0;place 0 0;mark 0 2 worth 8;flue 0 1;");
        Check.due("no share above", x.share(0, 0), 0);
        Check.due("no share below", x.share(0, 1), 1);
        x.clear(0);
        Check.due("whole share above", x.share(0, 0), 8);
        Check.due("whole share below", x.share(0, 1), 1);
    }

    private static void sets() {
        HassockRoof x = Check.told(Check.SMALL);
        int[] all = {0, 2, 14, 14, 9, 9, 14, 14};
        for (int set = 0; set < 8; set++) {
            Check.due("all(" + set + ")", x.all(set), all[set]);
        }
        Check.due("all(8)", x.all(8), -2);
        Check.due("all(-1)", x.all(-1), -2);
        Check.due("all(least)", x.all(Integer.MIN_VALUE), -2);
        Check.due("watch", x.watch(), 1);
        Check.due("watches", x.watches(), 2);
        // The outer places see the middle mark, the middle one the outer marks: sets 3 and 6.
        x = Check.told("roof years 1 law 0 odds 0;place 0 0;place 10 0;place 20 0;"
                + "mark 0 2 worth 1;mark 10 2 worth 1;mark 20 2 worth 1;flue 0 1;flue 10 1;flue 20 1;");
        Check.due("watch", x.watch(), 2);
        Check.due("watches", x.watches(), 3);
        x.clear(1);
        Check.due("one is enough then", x.watch(), 1);
        Check.due("the middle one", x.watches(), 2);
    }
}

/** Promises 56 to 59, 62, 64 and 65: acts, worths set anew, images. */
final class ActsTest {
    public static void main(String[] args) {
        swaps();
        clears();
        undoing();
        thirtyActs();
        rating();
        images();
        withoutRoof();
        Check.finish();
    }

    private static void swaps() {
        HassockRoof x = Check.told(Check.SMALL);
        Check.due("swap(0, 1, 0)", x.swap(0, 1, 0), 1);
        int[][] at = {{1, 2, 0, 1}, {0, 1, 2, 0}};
        for (int y = 0; y <= 3; y++) {
            Check.due("at(0, " + y + ")", x.at(0, y), at[0][y]);
            Check.due("at(1, " + y + ")", x.at(1, y), at[1][y]);
        }
        Check.due("told stays", x.looker(0, 0), 0);
        Check.due("swap(1, 0, 2)", x.swap(1, 0, 2), 1);
        Check.due("at(0, 2)", x.at(0, 2), 2);
        Check.due("at(0, 3)", x.at(0, 3), 0);
        int[][] bad = {{0, 0, 0}, {0, 2, 0}, {-1, 0, 0}, {0, 1, 3}, {0, 1, -1}, {0, 1, 4}};
        for (int[] b : bad) {
            Check.due("swap(" + b[0] + ", " + b[1] + ", " + b[2] + ")", x.swap(b[0], b[1], b[2]), -2);
        }
        Check.due("acts", x.count(8), 2);
        // Acts of one year in their order: 0 1, then 1 2.
        x = Check.told(Check.SMALL + "looker at 2 hopes 2;");
        x.swap(0, 1, 1);
        x.swap(1, 2, 1);
        // In year 1 they are at 1, 2, 0; then 2, 1, 0; then 2, 0, 1.
        Check.due("at(0, 1)", x.at(0, 1), 2);
        Check.due("at(1, 1)", x.at(1, 1), 0);
        Check.due("at(2, 1)", x.at(2, 1), 1);
        Check.due("at(2, 2)", x.at(2, 2), 2);
    }

    private static void clears() {
        HassockRoof x = Check.told(Check.SMALL);
        Check.due("clear(0)", x.clear(0), 1);
        Check.due("it is down", x.flue(0, 2), 0);
        Check.due("clear(0) again", x.clear(0), 0);
        Check.due("both are acts", x.count(8), 2);
        Check.due("clear(2)", x.clear(2), -2);
        Check.due("clear(-1)", x.clear(-1), -2);
        Check.due("undo", x.undo(), 1);
        Check.due("still down by the first", x.flue(0, 2), 0);
        Check.due("undo", x.undo(), 0);
        Check.due("it stands", x.flue(0, 2), 1);
        Check.due("and hides", x.sees(0), 4);
    }

    private static void undoing() {
        HassockRoof x = Check.told(Check.SMALL);
        Check.due("nothing to undo", x.undo(), -5);
        Check.due("nothing was done", x.anew(), 0);
        x.swap(0, 1, 0);
        x.clear(1);
        x.swap(0, 1, 1);
        Check.due("undo", x.undo(), 2);
        Check.due("at(0, 1)", x.at(0, 1), 2);
        Check.due("flue still down", x.flue(1, 2), 0);
        Check.due("undo", x.undo(), 1);
        Check.due("flue stands", x.flue(1, 2), 1);
        x.clear(0);
        Check.due("anew", x.anew(), 2);
        Check.due("acts", x.count(8), 0);
        Check.due("at(0, 0)", x.at(0, 0), 0);
        Check.due("sees(0)", x.sees(0), 4);
        Check.due("undo", x.undo(), -5);
    }

    private static void thirtyActs() {
        HassockRoof x = Check.told(Check.SMALL);
        for (int i = 0; i < 30; i++) {
            if (i % 2 == 0) {
                Check.due("clear", x.clear(0), i == 0 ? 1 : 0);
            } else {
                x.swap(0, 1, 2);
            }
        }
        Check.due("acts", x.count(8), 30);
        Check.due("clear", x.clear(1), -5);
        Check.due("clear of none", x.clear(2), -2);
        Check.due("swap", x.swap(0, 1, 0), -5);
        Check.due("swap of none", x.swap(0, 0, 0), -2);
        Check.due("flue 1 stands", x.flue(1, 2), 1);
        Check.due("undo", x.undo(), 29);
        Check.due("one more", x.clear(1), 1);
        Check.due("anew", x.anew(), 30);
    }

    private static void rating() {
        HassockRoof x = Check.told(Check.SMALL);
        Check.due("rate(2, 99)", x.rate(2, 99), 2);
        Check.due("mark(2, 2)", x.mark(2, 2), 99);
        Check.due("worth(0)", x.worth(0), 99);
        Check.due("joy(0, 0)", x.joy(0, 0), 99);
        Check.due("rate(2, 0)", x.rate(2, 0), 99);
        Check.due("rate(3, 0)", x.rate(3, 0), -2);
        Check.due("rate(-1, 0)", x.rate(-1, 0), -2);
        Check.due("rate(0, 100)", x.rate(0, 100), -2);
        Check.due("rate(0, -1)", x.rate(0, -1), -2);
        Check.due("no act", x.count(8), 0);
        x.clear(0);
        Check.due("behind acts", x.rate(2, 5), -5);
        Check.due("asked ahead", x.rate(2, 100), -2);
        Check.due("mark(2, 2)", x.mark(2, 2), 0);
        x.undo();
        Check.due("taken back", x.rate(2, 5), 0);
    }

    private static void images() {
        HassockRoof x = new HassockRoof();
        Check.due("image(3)", x.image(3), -2);
        Check.due("image(-1)", x.image(-1), -2);
        Check.due("back(3)", x.back(3), -2);
        Check.due("back(-1)", x.back(-1), -2);
        Check.due("back(0) of nothing", x.back(0), -6);
        Check.due("image of no roof", x.image(2), 0);
        Check.tell(x, Check.SMALL);
        x.rate(2, 50);
        x.clear(0);
        x.swap(0, 1, 0);
        Check.due("image(0)", x.image(0), 0);
        x.anew();
        x.rate(2, 3);
        Check.due("image(1)", x.image(1), 0);
        Check.tell(x, Check.BARE);
        x.row(0, 0, 1);
        x.feed(0, 0, 0, 0, 0);
        Check.due("back(0)", x.back(0), 0);
        Check.due("places", x.count(3), 3);
        Check.due("acts", x.count(8), 2);
        Check.due("worth", x.mark(2, 2), 50);
        Check.due("at(0, 0)", x.at(0, 0), 1);
        Check.due("sees(0)", x.sees(0), 5);
        Check.due("slots stay", x.count(11), 1);
        Check.due("the tape stays", x.count(10), 20);
        x.undo();
        Check.due("back(0) again", x.back(0), 0);
        Check.due("the image is as it was", x.count(8), 2);
        Check.due("back(1)", x.back(1), 0);
        Check.due("acts", x.count(8), 0);
        Check.due("worth", x.mark(2, 2), 3);
        Check.due("at(0, 0)", x.at(0, 0), 0);
        Check.due("back(2)", x.back(2), 0);
        Check.due("no roof", x.blind(), -2);
    }

    private static void withoutRoof() {
        HassockRoof x = new HassockRoof();
        Check.due("swap", x.swap(0, 1, 0), -2);
        Check.due("clear", x.clear(0), -2);
        Check.due("undo", x.undo(), -2);
        Check.due("anew", x.anew(), -2);
        Check.due("rate", x.rate(0, 0), -2);
        Check.due("drawn", x.drawn(0, 0), -2);
        Check.due("luck", x.luck(0, 1, 0), -2);
        Check.due("gets", x.gets(0, 1, 0, 0), -1000);
        Check.due("mean", x.mean(0, 1, 0), -2);
        Check.due("ask", x.ask(0, 0), -2);
        Check.due("leaves", x.leaves(0, 0), -2);
        Check.due("watches", x.watches(), -2);
        Check.due("first", x.first(0), -2);
        Check.due("often", x.often(0), -2);
        Check.due("seen", x.seen(0, 0), -2);
        int[] got = {x.lost(), x.best(), x.sad(), x.glad(0), x.round(), x.feast(), x.trade(0), x.roster(),
            x.rosters(), x.fair(), x.reach(), x.far(), x.all(0), x.watch(), x.by(0), x.law(), x.fell()};
        for (int i = 0; i < got.length; i++) {
            Check.due("without a roof, " + i, got[i], -2);
        }
    }
}

/** Promises 45 to 51: where one was at first by his book, by which law; which flue to fell. */
final class BookTest {
    public static void main(String[] args) {
        firstsAndLaws();
        asking();
        exchanged();
        wrongBooks();
        joyByLaw();
        felling();
        Check.finish();
    }

    private static void book(HassockRoof x, int looker, int firsts, int laws, long... numbers) {
        for (int width = 0; width < 4; width++) {
            Check.fill(x, 2, width, numbers);
            Check.due("firsts", x.firsts(2, looker), firsts);
            Check.due("laws", x.laws(2, looker), laws);
        }
    }

    private static void firstsAndLaws() {
        HassockRoof x = Check.told(Check.SMALL);
        book(x, 0, 7, 15);
        book(x, 0, 3, 7, 1, 0, 1);
        book(x, 0, 4, 8, 1, 0, 0);
        // Mark 1 is seen from place 1 alone: in year 2 he is there from place 2.
        book(x, 0, 4, 2, 2, 1, 1);
        book(x, 0, 1, 5, 1, 1, 1);
        book(x, 0, 0, 0, 1, 1, 1, 1, 1, 0);
        book(x, 0, 1, 5, 0, 0, 0, 1, 1, 1);
        // Looker 1 by law 2 is at place 0 in year 1.
        book(x, 1, 4, 6, 1, 0, 0);
        // By law 2 one at another's place changes with him: all else as now.
        x = Check.told(Check.SMALL.replace("law 0", "law 2"));
        book(x, 0, 5, 5, 1, 1, 1);
        book(x, 0, 2, 10, 1, 1, 0);
        Check.due("the roof stays", x.at(0, 0), 0);
    }

    private static void asking() {
        HassockRoof x = Check.told(Check.SMALL);
        Check.fill(x, 0, 1);
        Check.due("ask", x.ask(0, 0), 0);
        Check.due("leaves", x.leaves(0, 0), 1);
        Check.fill(x, 0, 1, 2, 1, 1);
        Check.due("one alone: no year", x.ask(0, 0), -1);
        Check.due("one alone stays", x.leaves(0, 0), 1);
        Check.fill(x, 0, 1, 2, 1, 1, 2, 1, 0);
        Check.due("none: no year", x.ask(0, 0), -1);
        Check.due("none", x.leaves(0, 0), 0);
    }

    private static void exchanged() {
        HassockRoof x = Check.told(Check.SMALL);
        Check.fill(x, 0, 0);
        x.swap(0, 1, 0);
        // Behind the exchange he is at place 1, or at 0 if looker 1 was there: 0, 2 go to 1.
        Check.due("firsts", x.firsts(0, 0), 7);
        Check.due("ask", x.ask(0, 0), 0);
        Check.due("leaves two", x.leaves(0, 0), 2);
        Check.fill(x, 0, 0, 0, 1, 1);
        Check.due("firsts that end at 1", x.firsts(0, 0), 5);
        Check.due("no year tells them apart", x.ask(0, 0), -1);
        Check.due("two stay", x.leaves(0, 0), 2);
        Check.due("laws", x.laws(0, 0), 15);
        // In year 1 they are exchanged: year 0 tells more than later ones.
        x.anew();
        x.swap(0, 1, 1);
        Check.fill(x, 0, 0);
        Check.due("ask year 0", x.ask(0, 0), 0);
        Check.due("leaves one", x.leaves(0, 0), 1);
        // By law 2 two alone change places each year: the last year undoes the exchange.
        x = Check.told(Check.SMALL.replace("law 0", "law 2").replace("years 3", "years 1"));
        x.swap(0, 1, 0);
        Check.fill(x, 0, 0);
        Check.due("ask the last year", x.ask(0, 0), 1);
        Check.due("leaves one", x.leaves(0, 0), 1);
    }

    private static void wrongBooks() {
        HassockRoof x = Check.told(Check.SMALL);
        int[][] bad = {{-1, 0}, {4, 0}, {0, -1}, {0, 2}};
        for (int[] b : bad) {
            all(x, b[0], b[1], -2);
        }
        all(x, 0, 0, -6);
        Check.due("asked ahead of -6", x.firsts(0, 9), -2);
        long[][] wrong = {{0}, {0, 0}, {0, 0, 0, 0}, {4, 0, 0}, {-1, 0, 0}, {0, 3, 0}, {0, -1, 0}, {0, 0, 2},
            {0, 0, -1}, {0, 0, 1, 0, 0, 2}};
        for (long[] numbers : wrong) {
            Check.fill(x, 0, 2, numbers);
            all(x, 0, 0, -2);
        }
        Check.fill(x, 0, 2, 3, 2, 1);
        Check.due("the last year is one", x.firsts(0, 0), 7);
    }

    private static void all(HassockRoof x, int slot, int looker, int want) {
        Check.due("firsts", x.firsts(slot, looker), want);
        Check.due("ask", x.ask(slot, looker), want);
        Check.due("leaves", x.leaves(slot, looker), want);
        Check.due("laws", x.laws(slot, looker), want);
    }

    private static void joyByLaw() {
        HassockRoof x = Check.told(Check.SMALL);
        int[] joy = {40, 40, 52, 16};
        for (int law = 0; law < 4; law++) {
            Check.due("by(" + law + ")", x.by(law), joy[law]);
        }
        Check.due("by(4)", x.by(4), -2);
        Check.due("by(-1)", x.by(-1), -2);
        Check.due("law", x.law(), 2);
        Check.due("the law told stays", x.at(0, 1), 1);
        x = Check.told(Check.BARE);
        Check.due("by(0) of none", x.by(0), 0);
        Check.due("the least law", x.law(), 0);
        Check.due("nothing to fell", x.fell(), -1);
    }

    private static void felling() {
        HassockRoof x = Check.told(Check.SMALL);
        Check.due("none is worth it", x.fell(), -1);
        Check.tell(x, Check.SMALL.replace("law 0", "law 3"));
        Check.due("fell", x.fell(), 0);
        x.clear(0);
        Check.due("fell of those that stand", x.fell(), 1);
        x.clear(1);
        Check.due("none stands", x.fell(), -1);
        x.anew();
        x.clear(1);
        Check.due("the other one", x.fell(), 0);
        // Two flues as good: the first.
        Check.tell(x, "roof years 1 law 3 odds 0;place 0 0;mark 4 0 worth 3;mark 0 4 worth 3;flue 2 0;flue 0 2;"
                + "looker at 0 hopes 0;");
        Check.due("the first of several", x.fell(), 0);
    }
}

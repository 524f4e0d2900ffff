/** What the tests of the project share: counting wrong answers, and telling a roof as a text. */
final class Check {
    /** Three places, three marks, two flues, two ways, two lookers; worked out by hand. */
    static final String SMALL = "roof years 3 law 0 odds 5;place 0 0;place 10 0;place 0 10;"
            + "mark 20 0 worth 7;mark 0 20 worth 5;mark 10 10 worth 2;flue 5 0;flue 0 15;"
            + "way 0 1;way 1 2;looker at 0 hopes 0;looker at 1 hopes 1;";
    /** A roof of nothing but its first line. */
    static final String BARE = "roof years 1 law 0 odds 0;";

    private static int asked = 0;
    private static int wrong = 0;

    private Check() {
    }

    static void due(String call, long got, long want) {
        asked++;
        if (got != want) {
            wrong++;
            System.out.println(call + " answered " + got + ", due is " + want);
        }
    }

    static void holds(String what, boolean is) {
        due(what, is ? 1 : 0, 1);
    }

    /** Ends the test: with exit code 1 if an answer was wrong, or none was asked for. */
    static void finish() {
        System.out.println(asked + " answers, " + wrong + " not as due");
        if (wrong != 0 || asked == 0) {
            System.exit(1);
        }
    }

    /** Feeds a text's bytes; what is beyond them is cut. */
    static void feedText(HassockRoof x, String text) {
        int already = x.count(10);
        for (int i = 0; i < text.length(); i += 20) {
            int[] five = new int[5];
            for (int k = 0; k < 20; k++) {
                int b = i + k < text.length() ? text.charAt(i + k) & 255 : 0;
                five[k / 4] |= b << 24 - 8 * (k % 4);
            }
            x.feed(five[0], five[1], five[2], five[3], five[4]);
        }
        x.end(already + text.length());
    }

    static int tell(HassockRoof x, String text) {
        feedText(x, text);
        return x.roof();
    }

    static HassockRoof told(String text) {
        HassockRoof x = new HassockRoof();
        int lines = tell(x, text);
        holds("told: " + text, lines > 0);
        return x;
    }

    /** Puts numbers into a slot, as a row of a width. */
    static void fill(HassockRoof x, int slot, int width, long... numbers) {
        due("row", x.row(slot, width, numbers.length), 0);
        for (int i = 0; i < numbers.length; i++) {
            due("write", x.write(slot, i, numbers[i]), 0);
        }
    }
}

/**
 * A roof on one line, in cells: place i, mark i, flue i, place i + 1, .. . From each place its own
 * mark is seen and no other, as flues part them, so that all can be worked out by hand; mark 6 is
 * behind the last flue and seen from nowhere. Taking down flue i makes one cell of i and i + 1.
 */
final class Cells {
    /** Worth of marks 0 to 6, if nothing else is said. */
    static final int[] WORTH = {10, 20, 30, 40, 50, 60, 70};

    private Cells() {
    }

    /** With six places; lookers as "at 0 hopes 1", one text each. */
    static String of(int years, int law, int odds, String... lookers) {
        return worth(years, law, odds, WORTH, lookers);
    }

    static String worth(int years, int law, int odds, int[] worth, String... lookers) {
        StringBuilder text = new StringBuilder("roof years " + years + " law " + law + " odds " + odds + ";");
        for (int i = 0; i < 6; i++) {
            text.append("place ").append(3 * i).append(" 0;");
            text.append("mark ").append(3 * i + 1).append(" 0 worth ").append(worth[i]).append(";");
            text.append("flue ").append(3 * i + 2).append(" 0;");
        }
        text.append("mark 18 0 worth ").append(worth[6]).append(";");
        for (String l : lookers) {
            text.append("looker ").append(l).append(";");
        }
        return text.toString();
    }

    /** The six lookers, each at the place of his number, each hoping for the mark so many further on (of six). */
    static String[] six(int further) {
        String[] lookers = new String[6];
        for (int l = 0; l < 6; l++) {
            lookers[l] = "at " + l + " hopes " + (l + further) % 6;
        }
        return lookers;
    }
}

import java.util.List;

/** Term I at its edges: each number's bounds, what is told ahead, how many, TOKENS, the first FAULT. */
final class EdgeTextTest {
    private static final String B = Check.BARE;
    private static final String THREE = B + "place 0 0;place 1 1;place 2 2;mark 3 3 worth 1;mark 4 4 worth 1;";

    public static void main(String[] args) {
        yearsLawOdds();
        pointsAndWorth();
        noTwoAlike();
        waysHavePlacesToldAhead();
        lookersHavePlacesToldAhead();
        lookersHaveMarksToldAhead();
        sixPlaces();
        sevenMarks();
        sixFlues();
        tenWays();
        sixLookers();
        tooManyAtTheWord();
        roofIsTheFirstLineAndNoOther();
        linesInAnyOrder();
        blanksAreTwo();
        wordsAreOfLetters();
        numbersAreOfDigits();
        theLongestToken();
        theFirstByItsPlace();
        theEnd();
        Check.finish();
    }

    private static void right(String text, int lines) {
        HassockRoof x = new HassockRoof();
        Check.due("roof() of " + text, Check.tell(x, text), lines);
        Runs.run(x, "fault(0) -> 0", "fault(1) -> -1");
    }

    private static void faulty(String text, int fault, int place) {
        HassockRoof x = new HassockRoof();
        Check.due("roof() of " + text, Check.tell(x, text), -4);
        Check.due("fault(0) of " + text, x.fault(0), fault);
        Check.due("fault(1) of " + text, x.fault(1), place);
    }

    /** A number of a LINE: its least and its most are right; those outside are FAULT 2 at its first byte. */
    private static void bounds(String ahead, String behind, int least, int most) {
        int lines = (ahead + behind).length() - (ahead + behind).replace(";", "").length();
        for (int n = least; n <= most; n += Math.max(1, most - least)) {
            right(ahead + n + behind, lines);
            right(ahead + "000" + n + behind, lines);
        }
        for (int n = 0; n < least; n++) {
            faulty(ahead + n + behind, 2, ahead.length());
        }
        String[] beyond = {"" + (most + 1), "00" + (most + 1), "" + (most + 256), "" + (most + 65536),
            "" + ((1L << 31) + least), "" + ((1L << 32) + least), "2147483647", "9999999999",
            "18446744073709551616", "1" + "0".repeat(100)};
        for (String n : beyond) {
            faulty(ahead + n + behind, 2, ahead.length());
            // It is a fault there, whatever comes behind it.
            faulty(ahead + n + " !", 2, ahead.length());
        }
        // A word, a sign, a sign that is none, or the end in its stead is FAULT 1.
        for (String other : List.of("x", ";", "-1", "+1", "")) {
            faulty(ahead + other, 1, ahead.length());
        }
    }

    private static void yearsLawOdds() {
        bounds("roof years ", " law 0 odds 0;", 1, 12);
        bounds("roof years 1 law ", " odds 0;", 0, 3);
        bounds("roof years 1 law 0 odds ", ";", 0, 10);
        for (int years = 1; years <= 12; years++) {
            HassockRoof x = Check.told("roof years " + years + " law " + years % 4 + " odds " + years % 11 + ";");
            Runs.run(x, "count(0) -> " + years, "count(1) -> " + years % 4, "count(2) -> " + years % 11);
        }
        Runs.run(Check.told("roof years 1 law 0 odds 10;"), "count(2) -> 10");
    }

    private static void pointsAndWorth() {
        for (String kind : List.of("place ", "flue ")) {
            bounds(B + kind, " 5;", 0, 30);
            bounds(B + kind + "5 ", ";", 0, 30);
        }
        bounds(B + "mark ", " 5 worth 5;", 0, 30);
        bounds(B + "mark 5 ", " worth 5;", 0, 30);
        bounds(B + "mark 5 5 worth ", ";", 0, 99);
        Runs.run(Check.told(B + "place 30 0;mark 0 30 worth 0;flue 30 30;mark 0 0 worth 99;"), "place(0, 0) -> 30",
                "place(0, 1) -> 0", "mark(0, 0) -> 0", "mark(0, 1) -> 30", "mark(0, 2) -> 0", "mark(1, 2) -> 99",
                "flue(0, 0) -> 30", "flue(0, 1) -> 30");
    }

    /** Of all places, marks and flues: the y of the later one is the fault. */
    private static void noTwoAlike() {
        String[] kinds = {"place # *;", "mark # * worth 9;", "flue # *;"};
        for (String one : kinds) {
            for (String other : kinds) {
                String told = B + one.replace("#", "7").replace("*", "8");
                String head = told + other.substring(0, other.indexOf('#'));
                faulty(told + other.replace("#", "7").replace("*", "8"), 2, head.length() + 2);
                faulty(told + other.replace("#", "07").replace("*", "008"), 2, head.length() + 3);
                right(told + other.replace("#", "8").replace("*", "7"), 3);
                right(told + other.replace("#", "7").replace("*", "7"), 3);
                right(told + other.replace("#", "8").replace("*", "8"), 3);
                // An x out of its bounds comes ahead.
                faulty(told + other.replace("#", "31").replace("*", "8"), 2, head.length());
            }
        }
        // Alike to one that is not the latest, and to the first of the most.
        faulty(B + "place 1 1;place 2 2;flue 3 3;mark 4 4 worth 1;place 1 1;", 2, 80);
        // The 7 places, marks .. are right in each other's rows.
        right(Runs.FULL, 36);
    }

    private static void waysHavePlacesToldAhead() {
        right(THREE + "way 0 2;", 7);
        right(THREE + "way 2 0;", 7);
        right(THREE + "way 1 2;way 2 1;way 1 2;", 9);
        toldAhead(THREE + "way 1 ", ";place 9 9;", 2, 2, 3);
        for (int p = 0; p < 3; p++) {
            faulty(THREE + "way " + p + " " + p + ";", 2, THREE.length() + 6);
            faulty(THREE + "way " + p + " 3;", 2, THREE.length() + 6);
            faulty(THREE + "way 3 " + p + ";", 2, THREE.length() + 4);
        }
        faulty(THREE + "way 3 3;", 2, THREE.length() + 4);
        faulty(B + "way 0 1;place 0 0;place 1 1;", 2, 30);
        faulty(B + "place 0 0;way 0 0;", 2, 42);
        faulty(B + "place 0 0;way 0 1;place 1 1;", 2, 42);
        faulty(B + "place 0 0;way 1 0;place 1 1;", 2, 40);
    }

    /** Bounds of a number where only those told ahead count. */
    private static void toldAhead(String ahead, String behind, int least, int most, int beyond) {
        right(ahead + least + behind, lines(ahead + behind));
        right(ahead + most + behind, lines(ahead + behind));
        faulty(ahead + beyond + behind, 2, ahead.length());
        faulty(ahead + (beyond + 256) + behind, 2, ahead.length());
    }

    private static int lines(String text) {
        return text.length() - text.replace(";", "").length();
    }

    private static void lookersHavePlacesToldAhead() {
        toldAhead(THREE + "looker at ", " hopes 0;", 0, 2, 3);
        toldAhead(THREE + "looker at ", " hopes 0;place 9 9;", 0, 2, 3);
        faulty(B + "looker at 0 hopes 0;", 2, 36);
        faulty(B + "mark 3 3 worth 1;looker at 0 hopes 0;place 0 0;", 2, 53);
        // Where one is already: by the latest, by an earlier one.
        String two = THREE + "looker at 2 hopes 0;looker at 0 hopes 0;";
        right(two + "looker at 1 hopes 0;", 9);
        faulty(two + "looker at 2 hopes 0;", 2, two.length() + 10);
        faulty(two + "looker at 0 hopes 0;", 2, two.length() + 10);
        faulty(two + "looker at 0 hopes 9;", 2, two.length() + 10);
        faulty(two + "looker at 0 !", 2, two.length() + 10);
    }

    private static void lookersHaveMarksToldAhead() {
        toldAhead(THREE + "looker at 1 hopes ", ";", 0, 1, 2);
        toldAhead(THREE + "looker at 1 hopes ", ";mark 9 9 worth 1;", 0, 1, 2);
        faulty(B + "place 0 0;looker at 0 hopes 0;", 2, 54);
        faulty(B + "place 0 0;looker at 0 hopes 0;mark 3 3 worth 1;", 2, 54);
        // Two may hope for the same.
        right(THREE + "looker at 1 hopes 1;looker at 0 hopes 1;", 8);
    }

    private static String many(String line, int n) {
        StringBuilder text = new StringBuilder();
        for (int i = 0; i < n; i++) {
            text.append(line.replace("#", "" + i));
        }
        return text.toString();
    }

    /** The most of a kind is right, one more is FAULT 3 at its word. */
    private static void most(String ahead, String line, int n, int what) {
        for (int k = 0; k <= n; k++) {
            HassockRoof x = Check.told(ahead + many(line, k));
            Runs.run(x, "count(" + what + ") -> " + k, "count(9) -> " + (lines(ahead) + k));
        }
        String full = ahead + many(line, n);
        faulty(full + line.replace("#", "" + n), 3, full.length());
        faulty(full + "\n" + line.replace("#", "" + n), 3, full.length() + 1);
        faulty(full + line.substring(0, line.indexOf(' ')), 3, full.length());
        faulty(full + line.substring(0, line.indexOf(' ')) + "!", 3, full.length());
    }

    private static void sixPlaces() {
        most(B, "place # 0;", 6, 3);
    }

    private static void sevenMarks() {
        most(B, "mark # 0 worth 1;", 7, 4);
    }

    private static void sixFlues() {
        most(B, "flue # 0;", 6, 5);
    }

    private static void tenWays() {
        most(B + "place 0 0;place 1 0;", "way 0 1;", 10, 6);
    }

    private static void sixLookers() {
        most(B + many("place # 0;", 6) + "mark 9 9 worth 1;", "looker at # hopes 0;", 6, 7);
    }

    /** Each kind is counted by itself, and a fault ahead of the word comes first. */
    private static void tooManyAtTheWord() {
        String full = B + many("place # 0;", 6) + many("flue # 1;", 6) + many("mark # 2 worth 1;", 7)
                + many("looker at # hopes #;", 6) + many("way 0 #;", 6).replace("way 0 0;", "") + many("way 1 #;", 6)
                .replace("way 1 1;", "");
        right(full, 1 + 6 + 6 + 7 + 6 + 10);
        for (String word : List.of("place", "flue", "mark", "looker", "way")) {
            faulty(full + word, 3, full.length());
            faulty(full + ";" + word, 1, full.length());
            faulty(full + word + "x", 1, full.length());
        }
        faulty(full + "roof", 1, full.length());
    }

    private static void roofIsTheFirstLineAndNoOther() {
        for (String line : List.of("place 0 0;", "mark 0 0 worth 1;", "flue 0 0;", "way 0 1;", "looker at 0 hopes 0;",
                "years 1;", "law 0;", "a", "roofs", "roo", "0", ";")) {
            faulty(line + B, 1, 0);
            faulty(" \n" + line + B, 1, 2);
        }
        faulty(B + B, 1, B.length());
        faulty(B + "place 0 0;" + B, 1, B.length() + 10);
        faulty(B + "place 0 0;" + "roof", 1, B.length() + 10);
        for (String word : List.of("years", "law", "odds", "worth", "at", "hopes", "places", "plac", "x")) {
            faulty(B + word, 1, B.length());
        }
        faulty("roof law 0 years 1 odds 0;", 1, 5);
        faulty("roof years 1 odds 0 law 0;", 1, 13);
        faulty("roof years 1 law 0;", 1, 18);
        faulty("roof;", 1, 4);
    }

    /** "numbered as they stand", whatever stands between. */
    private static void linesInAnyOrder() {
        HassockRoof x = Check.told(B + "flue 1 2;place 3 4;mark 5 6 worth 7;looker at 0 hopes 0;place 8 9;way 1 0;"
                + "flue 10 11;mark 12 13 worth 14;looker at 1 hopes 1;");
        Runs.run(x, "place(0, 0) -> 3", "place(1, 1) -> 9", "flue(0, 0) -> 1", "flue(1, 1) -> 11", "mark(0, 2) -> 7",
                "mark(1, 2) -> 14", "looker(0, 0) -> 0", "looker(1, 1) -> 1", "ways(0) -> 2", "ways(1) -> 1");
    }

    private static boolean isLetter(int b) {
        return b >= 97 && b <= 122;
    }

    private static boolean isDigit(int b) {
        return b >= 48 && b <= 57;
    }

    private static boolean isBlank(int b) {
        return b == 32 || b == 10;
    }

    /** Each byte between two LINES: 32 and 10 alone are blanks. */
    private static void blanksAreTwo() {
        for (int b = 0; b < 256; b++) {
            String text = B + (char) b + "place 0 0;";
            if (isBlank(b)) {
                right(text, 2);
            } else {
                faulty(text, 1, 26);
            }
        }
    }

    /** Each byte behind a word: a letter makes another word of it, which is none there from its first byte on. */
    private static void wordsAreOfLetters() {
        for (int b = 0; b < 256; b++) {
            String text = B + "place" + (char) b + " 0 0;";
            if (isBlank(b)) {
                right(text, 2);
            } else if (isDigit(b)) {
                // A digit is x, so that the third number is one too many.
                faulty(text, 1, 35);
            } else {
                faulty(text, 1, isLetter(b) ? 26 : 31);
            }
        }
    }

    /** Each byte where y is due: a digit is one, all else is none. */
    private static void numbersAreOfDigits() {
        for (int b = 0; b < 256; b++) {
            String text = B + "place 0 " + (char) b + ";";
            if (isDigit(b)) {
                HassockRoof x = Check.told(text);
                Check.due("y", x.place(0, 1), b - 48);
            } else {
                faulty(text, 1, isBlank(b) ? 35 : 34);
            }
            // Behind a digit: another one makes the number greater, all else but blanks ends it.
            text = B + "place 0 1" + (char) b + ";";
            if (isDigit(b)) {
                Check.due("y", Check.told(text).place(0, 1), 10 + b - 48);
            } else if (isBlank(b)) {
                right(text, 2);
            } else {
                faulty(text, 1, b == ';' ? 36 : 35);
            }
        }
    }

    private static void theLongestToken() {
        right("roof years1law0odds0;", 1);
        faulty("roofyears 1 law 0 odds 0;", 1, 0);
        faulty("roof yearslaw", 1, 5);
        right(B + "place 3 0;mark3 1worth2;", 3);
        faulty(B + "place 30;", 1, 34);
        faulty(B + "place 3 1 0;", 1, 36);
        faulty(B + "place 310;", 2, 32);
        Runs.run(Check.told(B + "place 1 2;place 12 3;"), "place(0, 1) -> 2", "place(1, 0) -> 12");
        right("roof\nyears\n1\nlaw\n0\nodds\n0\n;\n", 1);
    }

    private static void theFirstByItsPlace() {
        faulty("roof years 0 law 9 odds 99;", 2, 11);
        faulty("roof years 1 law 9 odds 99!", 2, 17);
        faulty("roof years ! law 9;", 1, 11);
        faulty(B + "place 31 31;place 0 0 0;", 2, 32);
        faulty(B + "place 0 31;roof", 2, 34);
        faulty(B + "place 0 0 ! roof", 1, 36);
        faulty(B + "mark 0 0 worth 100 0;", 2, 41);
        // Without its sign: at what stands in its stead.
        faulty(B + "place 0 0 place 1 1;", 1, 36);
        faulty(B + "place 0 0\nmark", 1, 36);
        faulty(B + "place 0 0;;", 1, 36);
        faulty(";" + B, 1, 0);
    }

    /** The end's place is behind the last byte, blanks too. */
    private static void theEnd() {
        String text = "roof years 1 law 0 odds 0";
        for (int n = 1; n <= text.length(); n++) {
            String cut = text.substring(0, n);
            // Within a word the word is the fault, else the end is.
            boolean isWithin = n < text.length() && isLetter(text.charAt(n - 1)) && isLetter(text.charAt(n));
            int word = cut.lastIndexOf(' ') + 1;
            faulty(cut, 1, isWithin ? word : n);
            faulty(cut + "\n ", 1, isWithin ? word : n + 2);
        }
        faulty(B + "place", 1, 31);
        faulty(B + "place 0", 1, 33);
        faulty(B + "place 0 0", 1, 35);
        faulty(B + "place 0 0 ", 1, 36);
        faulty(B + "mark 0 0 worth", 1, 40);
        faulty(THREE + "way 0", 1, THREE.length() + 5);
        faulty(THREE + "looker at 0 hopes", 1, THREE.length() + 17);
    }
}

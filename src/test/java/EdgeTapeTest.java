import java.util.List;
import java.util.function.Supplier;

/** Promises 2 to 5 at their edges: the TAPE empty and full, cut, taken, refused. */
final class EdgeTapeTest {
    private static final String BARE = Check.BARE;

    public static void main(String[] args) {
        feedCountsTwenties();
        feedTakesTheHighestByteFirst();
        feedHasSevenHundred();
        feedOfTooMuchLeavesAll();
        endIsWithinTheTape();
        endOfAnEmptyTape();
        endCutsForGood();
        roofOfNothing();
        roofOfBlanks();
        roofOfOneLine();
        roofOfAllLines();
        roofOfAFullTape();
        roofInPlaceOfAnother();
        roofGone();
        roofRefused();
        roofEmptiesTheTapeBehindAFault();
        faultsOneBehindTheOther();
        faultAheadOfAny();
        faultOfTheLatest();
        faultOfAnotherWhat();
        Check.finish();
    }

    private static String feeds(int n) {
        return "feed(538976288, 538976288, 538976288, 538976288, 538976288) -> " + n;
    }

    /** An object with so many blanks on its TAPE. */
    private static Supplier<HassockRoof> fed(int bytes) {
        return () -> {
            HassockRoof x = new HassockRoof();
            Check.feedText(x, " ".repeat(bytes));
            Check.due("bytes", x.count(10), bytes);
            return x;
        };
    }

    private static void feedCountsTwenties() {
        HassockRoof x = new HassockRoof();
        for (int i = 1; i <= 35; i++) {
            Runs.run(x, feeds(20 * i), "count(10) -> " + 20 * i);
        }
        Runs.run(fed(1).get(), feeds(21));
        Runs.run(fed(19).get(), feeds(39));
    }

    /** Each of the twenty bytes at its place: one that is no TOKEN among blanks, and one of 255. */
    private static void feedTakesTheHighestByteFirst() {
        for (int i = 0; i < 20; i++) {
            for (int odd : new int[] {'!', 255, 128}) {
                int[] five = {0x20202020, 0x20202020, 0x20202020, 0x20202020, 0x20202020};
                int shift = 24 - 8 * (i % 4);
                five[i / 4] = five[i / 4] & ~(255 << shift) | odd << shift;
                HassockRoof x = new HassockRoof();
                Check.due("feed", x.feed(five[0], five[1], five[2], five[3], five[4]), 20);
                Runs.run(x, "roof() -> -4", "fault(0) -> 1", "fault(1) -> " + i);
            }
        }
    }

    private static void feedHasSevenHundred() {
        Runs.run(fed(680).get(), feeds(700), feeds(-1), "count(10) -> 700");
        Runs.run(fed(679).get(), feeds(699), feeds(-1));
        Runs.refused(fed(681), feeds(-1));
        Runs.refused(fed(699), feeds(-1));
        Runs.refused(fed(700), feeds(-1));
    }

    /** "none come": what would fit does not come either. */
    private static void feedOfTooMuchLeavesAll() {
        HassockRoof x = new HassockRoof();
        Check.feedText(x, BARE + " ".repeat(690 - BARE.length()));
        Check.due("feed", x.feed(-1, -1, -1, -1, -1), -1);
        Runs.run(x, "count(10) -> 690", "end(691) -> -1", "roof() -> 1", feeds(20));
    }

    private static void endIsWithinTheTape() {
        for (int bytes : new int[] {1, 20, 40, 699, 700}) {
            Runs.bounds(fed(bytes), "end(#)", 0, bytes, -1);
            Runs.run(fed(bytes).get(), "end(" + bytes + ") -> " + bytes, "count(10) -> " + bytes);
            Runs.run(fed(bytes).get(), "end(" + (bytes - 1) + ") -> " + (bytes - 1), "count(10) -> " + (bytes - 1),
                    "end(" + bytes + ") -> -1", "count(10) -> " + (bytes - 1));
            Runs.run(fed(bytes).get(), "end(0) -> 0", "count(10) -> 0", "end(1) -> -1");
        }
    }

    private static void endOfAnEmptyTape() {
        Runs.bounds(HassockRoof::new, "end(#)", 0, 0, -1);
        Runs.run(new HassockRoof(), "end(0) -> 0", "end(1) -> -1", "end(-1) -> -1", "count(10) -> 0");
    }

    /** What is cut off is gone, and what comes then comes behind the rest. */
    private static void endCutsForGood() {
        HassockRoof x = new HassockRoof();
        Check.feedText(x, BARE + "!!!!");
        Runs.run(x, "end(26) -> 26", "roof() -> 1");
        Check.feedText(x, BARE + "place 1 1;");
        Runs.run(x, "end(26) -> 26");
        Check.feedText(x, "mark 3 4 worth 5;");
        Runs.run(x, "count(10) -> 43", "roof() -> 2", "count(3) -> 0", "count(4) -> 1", "mark(0, 1) -> 4");
        Check.feedText(x, BARE);
        Runs.run(x, "end(25) -> 25", "end(26) -> -1", "roof() -> -4", "fault(1) -> 25");
    }

    private static void roofOfNothing() {
        Runs.run(new HassockRoof(), "roof() -> 0", "fault(0) -> 0", "fault(1) -> -1", "count(9) -> 0", "blind() -> -2");
        HassockRoof x = Runs.of(Check.SMALL).get();
        Runs.run(x, "blind() -> 0", "roof() -> 0", "blind() -> -2", "place(0, 0) -> -2", "roof() -> 0");
    }

    private static void roofOfBlanks() {
        for (String blanks : List.of(" ", "\n", " \n\n ", " ".repeat(700), "\n".repeat(700))) {
            HassockRoof x = Runs.of(Check.SMALL).get();
            Check.due("blanks alone", Check.tell(x, blanks), 0);
            Runs.run(x, "fault(0) -> 0", "fault(1) -> -1", "count(10) -> 0", "count(3) -> 0", "blind() -> -2");
        }
    }

    private static void roofOfOneLine() {
        Runs.run(Runs.of(BARE).get(), "count(9) -> 1", "count(0) -> 1", "count(3) -> 0", "count(4) -> 0",
                "count(5) -> 0", "count(6) -> 0", "count(7) -> 0", "blind() -> 0", "lost() -> 0");
    }

    private static void roofOfAllLines() {
        HassockRoof x = new HassockRoof();
        Check.due("36 lines", Check.tell(x, Runs.FULL), 36);
        Runs.run(x, "count(0) -> 12", "count(1) -> 3", "count(2) -> 10", "count(3) -> 6", "count(4) -> 7",
                "count(5) -> 6", "count(6) -> 10", "count(7) -> 6", "count(8) -> 0", "count(9) -> 36", "count(10) -> 0");
    }

    private static void roofOfAFullTape() {
        String blanks = " ".repeat(700 - Runs.FULL.length());
        HassockRoof x = new HassockRoof();
        Check.due("700 bytes, blanks behind", Check.tell(x, Runs.FULL + blanks), 36);
        Check.due("700 bytes, blanks ahead", Check.tell(x, blanks + Runs.FULL), 36);
        Runs.run(x, "looker(5, 1) -> 5", "count(10) -> 0");
        Check.due("its last sign is missing", Check.tell(x, blanks + " " + Runs.FULL.substring(0, Runs.FULL.length() - 1)),
                -4);
        Runs.run(x, "fault(0) -> 1", "fault(1) -> 700", "count(10) -> 0");
        Check.due("a byte too much at the end", Check.tell(x, Runs.FULL + blanks.substring(1) + "!"), -4);
        Runs.run(x, "fault(0) -> 1", "fault(1) -> 699", "count(10) -> 0");
        Check.due("a number of zeros", Check.tell(x, "roof years " + "0".repeat(600) + "12 law 0 odds 0;"), 1);
        Runs.run(x, "count(0) -> 12");
        Check.due("a long word", Check.tell(x, "r".repeat(700)), -4);
        Runs.run(x, "fault(0) -> 1", "fault(1) -> 0");
    }

    /** "in place of another, nothing done": nothing of the other is left. */
    private static void roofInPlaceOfAnother() {
        HassockRoof x = Runs.of(Runs.FULL, "clear(0)", "swap(0, 1, 0)").get();
        Check.due("in place", Check.tell(x, Check.SMALL), 13);
        Check.holds("as on a new object", Runs.seen(x).equals(Runs.seen(Runs.of(Check.SMALL).get())));
        Runs.run(x, "count(8) -> 0", "undo() -> -5", "flue(0, 2) -> 1", "at(0, 0) -> 0", "at(0, 4) -> -2",
                "place(3, 0) -> -2", "mark(3, 2) -> -2");
        // Worth set anew is that of the ROOF then.
        x.rate(0, 50);
        Check.due("in place", Check.tell(x, Check.SMALL), 13);
        Runs.run(x, "mark(0, 2) -> 7", "worth(1) -> 14");
    }

    private static void roofGone() {
        HassockRoof x = Runs.of(Runs.FULL, "clear(0)").get();
        Runs.run(x, "roof() -> 0");
        for (int what = 0; what <= 10; what++) {
            Runs.run(x, "count(" + what + ") -> 0");
        }
        Runs.run(x, "undo() -> -2", "anew() -> -2", "mark(0, 2) -> -2", "flue(0, 2) -> -2");
    }

    /** "-4: a FAULT (all stays)": the ROOF, acts, SLOTS; the TAPE is empty then. */
    private static void roofRefused() {
        String[] faulty = {"!", "place 0 0;", "roof years 0", BARE + "place 31 0;", BARE.repeat(2),
            BARE + "place 0 0;".repeat(2), Runs.FULL + "place 1 1;", "roof"};
        for (String text : faulty) {
            HassockRoof x = Runs.of(Check.SMALL, "rate(1, 6)", "clear(1)", "swap(0, 1, 1)", "row(0, 0, 2)",
                    "write(0, 1, 2)", "image(1)").get();
            List<Long> before = Runs.seen(x);
            Check.due("a fault: " + text, Check.tell(x, text), -4);
            List<Long> behind = Runs.seen(x);
            Check.holds("there is a fault", x.fault(0) > 0 && x.fault(1) >= 0);
            // Numbers 12 and 13 are those of fault().
            before.subList(12, 14).clear();
            behind.subList(12, 14).clear();
            Check.holds("all stays behind a fault of " + text, before.equals(behind));
            Runs.run(x, "count(10) -> 0", "undo() -> 1", "undo() -> 0", "back(1) -> 0", "count(8) -> 2");
        }
        HassockRoof x = new HassockRoof();
        Check.due("no roof ahead", Check.tell(x, "roof"), -4);
        Runs.run(x, "blind() -> -2", "count(9) -> 0", "count(0) -> 0");
    }

    /** "The TAPE (empty then)", behind a FAULT as well: nothing is there to be cut, or taken again. */
    private static void roofEmptiesTheTapeBehindAFault() {
        HassockRoof x = Runs.of(Check.SMALL).get();
        Check.due("a fault", Check.tell(x, BARE + "place 0 99;"), -4);
        Runs.run(x, "fault(0) -> 2", "fault(1) -> 34", "count(10) -> 0", "end(1) -> -1", "end(0) -> 0", feeds(20));
        Runs.run(x, "end(0) -> 0", "count(9) -> 13", "roof() -> 0", "fault(0) -> 0", "count(9) -> 0", "blind() -> -2");
        x = new HassockRoof();
        Check.due("a fault of 700 bytes", Check.tell(x, "!".repeat(700)), -4);
        Runs.run(x, feeds(20));
    }

    /** A text, its FAULT and where, told to an object behind whatever it was told. */
    private static void faulty(HassockRoof x, String text, int fault, int place) {
        HassockRoof fresh = new HassockRoof();
        for (HassockRoof one : List.of(fresh, x)) {
            feedAlone(one, text);
            Runs.run(one, "roof() -> -4", "fault(0) -> " + fault, "fault(1) -> " + place);
        }
    }

    /** Feeds as one does who takes the TAPE to be empty: cut to the length of this text. */
    private static void feedAlone(HassockRoof x, String text) {
        for (int i = 0; i < text.length(); i += 20) {
            int[] five = new int[5];
            for (int k = i; k < i + 20 && k < text.length(); k++) {
                five[(k - i) / 4] |= text.charAt(k) << 24 - 8 * (k % 4);
            }
            Check.due("feed", x.feed(five[0], five[1], five[2], five[3], five[4]), i + 20);
        }
        Runs.run(x, "end(" + text.length() + ") -> " + text.length());
    }

    /**
     * Faulty texts one behind the other, then one that is right, with nothing but feed() and end()
     * between. The texts are guessed by lengths in run 3 of the shared test, which seems to be such a
     * run without its feed() calls, and makes sense only if the TAPE is empty behind a FAULT.
     */
    private static void faultsOneBehindTheOther() {
        HassockRoof x = new HassockRoof();
        faulty(x, "roof years 0", 2, 11);
        faulty(x, "roof years 13", 2, 11);
        faulty(x, "roof years 1 law 4", 2, 17);
        faulty(x, "roof years 1 law 0 odds 11", 2, 24);
        faulty(x, "place", 1, 0);
        faulty(x, BARE + "roof", 1, 26);
        faulty(x, BARE + "place 31", 2, 32);
        faulty(x, BARE + "place 0 31", 2, 34);
        faulty(x, BARE + "place 1 1;mark 1 1", 2, 43);
        faulty(x, BARE + "place 1 1;place 2 2;way 0 0;", 2, 52);
        faulty(x, BARE + "place 1 1;place 1 1", 2, 44);
        faulty(x, BARE + "mark 2 2 worth 100", 2, 41);
        faulty(x, BARE + "looker at 0 hopes 0;", 2, 36);
        faulty(x, BARE + "place 1 1;place 2 2;way 0 2", 2, 52);
        faulty(x, BARE + "place 1 1;place 2 2;way 2", 2, 50);
        faulty(x, BARE + "place 1 1;mark 2 2 worth 1;looker at 0;", 1, 64);
        String places = "place 0 1;place 0 2;place 0 3;place 0 4;place 0 5;place 0 6;";
        faulty(x, BARE + places + "place", 3, 86);
        faulty(x, BARE + repeated("mark 0 # worth 1;", 1, 7) + "mark", 3, 145);
        faulty(x, BARE + repeated("flue 0 #;", 1, 6) + "flue", 3, 80);
        faulty(x, BARE + "place 1 1;place 2 2;" + "way 0 1;".repeat(10) + "way", 3, 126);
        String six = BARE + places + "mark 9 9 worth 1;" + repeated("looker at # hopes 0;", 0, 5);
        faulty(x, six + "looker", 3, 223);
        faulty(x, BARE + "foo", 1, 26);
        faulty(x, BARE + "place 1", 1, 33);
        feedAlone(x, six);
        Runs.run(x, "roof() -> 14", "fault(0) -> 0", "fault(1) -> -1", "at(0, 1) -> 1", "at(5, 1) -> 0", "reach() -> 1",
                "roster() -> 6", "rosters() -> 720", "put(5) -> 5", "fair() -> 1", "watch() -> 1", "lot(0, 0, 1) -> 6");
    }

    private static String repeated(String line, int from, int to) {
        StringBuilder text = new StringBuilder();
        for (int i = from; i <= to; i++) {
            text.append(line.replace("#", Integer.toString(i)));
        }
        return text.toString();
    }

    private static void faultAheadOfAny() {
        Runs.run(new HassockRoof(), "fault(0) -> 0", "fault(1) -> -1");
        Runs.run(fed(20).get(), "fault(0) -> 0", "fault(1) -> -1");
    }

    private static void faultOfTheLatest() {
        HassockRoof x = new HassockRoof();
        Check.tell(x, "!");
        Runs.run(x, "fault(0) -> 1", "fault(1) -> 0", "image(0) -> 0", "end(0) -> 0", "back(0) -> 0",
                "fault(0) -> 1", "fault(1) -> 0");
        Check.tell(x, BARE);
        Runs.run(x, "fault(0) -> 0", "fault(1) -> -1");
        Check.tell(x, "roof years 13");
        Runs.run(x, "fault(0) -> 2", "fault(1) -> 11", "end(0) -> 0", "fault(0) -> 2", "fault(1) -> 11", "roof() -> 0",
                "fault(0) -> 0", "fault(1) -> -1");
        Check.tell(x, BARE + "place 0 0;place 1 0;place 2 0;place 3 0;place 4 0;place 5 0; place");
        Runs.run(x, "fault(0) -> 3", "fault(1) -> 87");
        Check.feedText(x, " !");
        Runs.run(x, "fault(0) -> 3", "fault(1) -> 87");
    }

    private static void faultOfAnotherWhat() {
        int[] others = {-1, 2, 3, 256, 257, Integer.MIN_VALUE, Integer.MIN_VALUE + 1, Integer.MAX_VALUE};
        HassockRoof faulty = new HassockRoof();
        Check.tell(faulty, "roof years 13");
        for (HassockRoof x : List.of(new HassockRoof(), Runs.of(BARE).get(), faulty)) {
            for (int what : others) {
                Runs.run(x, "fault(" + what + ") -> -1");
            }
        }
    }
}

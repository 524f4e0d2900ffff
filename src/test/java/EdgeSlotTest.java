import java.util.function.Supplier;

/** Promises 66 to 68 at their edges: SLOTS, WIDTHS, how many numbers, and numbers cut. */
final class EdgeSlotTest {
    /** One looker at the first of six places in a line: shifts() of a row of one number is that number. */
    private static final String LINE = "roof years 1 law 0 odds 0;place 0 0;place 1 0;place 2 0;place 3 0;place 4 0;"
            + "place 5 0;mark 0 9 worth 1;way 0 1;way 1 2;way 2 3;way 3 4;way 4 5;looker at 0 hopes 0;";

    public static void main(String[] args) {
        rowHasASlotAndAWidth();
        rowHasAtMostSixty();
        rowBelowNothing();
        rowIsAllNothingAnew();
        writeHasASlotThatHasARow();
        writeHasANumber();
        writeCutsToOneByte();
        writeCutsToTwoBytes();
        writeCutsToFourBytes();
        writeCutsNothingOfEight();
        pasteHasSlots();
        pasteHasRows();
        pasteHasOneWidth();
        pasteStaysWithinItsRow();
        pasteStaysWithinTheOther();
        pasteOfNothing();
        pasteOfAllSixty();
        pasteAsTheyWere();
        slotsAreCounted();
        slotsAreNoPartOfTheRoof();
        Check.finish();
    }

    /** What number i of a slot's row is, told by a probe in slot 3: -2 if it is no place. */
    private static void number(HassockRoof x, int slot, int i, int width, long want) {
        Check.due("row", x.row(3, width, 1), 0);
        Check.due("paste of number " + i, x.paste(slot, i, 3, 0, 1), 0);
        Check.due("number " + i + " of slot " + slot, x.shifts(3), want);
    }

    private static void rowHasASlotAndAWidth() {
        Supplier<HassockRoof> made = Runs.of(LINE, "row(0, 0, 1)");
        Runs.bounds(made, "row(#, 0, 1)", 0, 3, -2);
        Runs.bounds(made, "row(0, #, 1)", 0, 3, -2);
        // Asked ahead of -3.
        Runs.refused(made, "row(4, 0, -1) -> -2", "row(-1, 0, -1) -> -2", "row(0, 4, -1) -> -2", "row(0, -1, -1) -> -2");
    }

    private static void rowHasAtMostSixty() {
        for (int width = 0; width < 4; width++) {
            Supplier<HassockRoof> made = Runs.of(LINE, "row(1, " + width + ", 60)", "write(1, 59, 5)");
            Runs.refused(made, "row(1, " + width + ", 61) -> -2", "row(1, 0, 2147483647) -> -2");
            HassockRoof x = made.get();
            Runs.run(x, "row(1, " + width + ", 61) -> -2");
            number(x, 1, 59, width, 5);
            Runs.run(x, "row(1, " + width + ", 60) -> 0", "write(1, 59, 1) -> 0", "write(1, 60, 1) -> -7");
            Runs.run(x, "row(1, " + width + ", 0) -> 0", "write(1, 0, 1) -> -7");
        }
    }

    private static void rowBelowNothing() {
        Supplier<HassockRoof> made = Runs.of(LINE, "row(2, 1, 2)", "write(2, 1, 4)");
        Runs.refused(made, "row(2, 1, -1) -> -3", "row(2, 1, -2147483648) -> -3", "row(0, 0, -1) -> -3");
        HassockRoof x = made.get();
        Runs.run(x, "row(2, 0, -1) -> -3", "row(0, 0, -1) -> -3", "count(11) -> 1", "write(0, 0, 0) -> -6");
        number(x, 2, 1, 1, 4);
    }

    private static void rowIsAllNothingAnew() {
        HassockRoof x = Runs.of(LINE, "row(0, 2, 3)").get();
        for (int i = 0; i < 3; i++) {
            number(x, 0, i, 2, 0);
        }
        Runs.run(x, "write(0, 0, 1) -> 0", "write(0, 2, 2) -> 0", "row(0, 2, 3) -> 0");
        for (int i = 0; i < 3; i++) {
            number(x, 0, i, 2, 0);
        }
        // A shorter row, and a longer one again: what was behind it is gone.
        Runs.run(x, "write(0, 2, 2) -> 0", "row(0, 2, 1) -> 0", "row(0, 2, 3) -> 0");
        number(x, 0, 2, 2, 0);
        // Of another width in place of it.
        Runs.run(x, "row(0, 1, 3) -> 0", "row(1, 2, 3) -> 0", "paste(0, 0, 1, 0, 1) -> -8");
    }

    private static void writeHasASlotThatHasARow() {
        Supplier<HassockRoof> made = Runs.of(LINE, "row(0, 0, 1)", "row(1, 0, 1)", "row(2, 0, 1)", "row(3, 0, 1)");
        Runs.bounds(made, "write(#, 0, 1)", 0, 3, -2);
        // Asked ahead of -6 and -7; -6 ahead of -7.
        Runs.refused(Runs.of(LINE), "write(4, 0, 1) -> -2", "write(-1, 99, 1) -> -2", "write(0, 0, 1) -> -6",
                "write(3, -1, 1) -> -6", "write(3, 60, 1) -> -6");
    }

    private static void writeHasANumber() {
        Runs.bounds(Runs.of(LINE, "row(0, 0, 60)"), "write(0, #, 1)", 0, 59, -7);
        Runs.bounds(Runs.of(LINE, "row(0, 3, 1)"), "write(0, #, 1)", 0, 0, -7);
        Runs.bounds(Runs.of(LINE, "row(0, 1, 0)"), "write(0, #, 1)", 0, -1, -7);
        HassockRoof x = Runs.of(LINE, "row(0, 0, 2)", "write(0, 1, 3)").get();
        Runs.run(x, "write(0, 2, 5) -> -7", "write(0, -1, 5) -> -7");
        number(x, 0, 0, 0, 0);
        number(x, 0, 1, 0, 3);
    }

    /** Numbers written to a width, and what they are then. */
    private static void cut(int width, long written, long want) {
        HassockRoof x = Runs.of(LINE, "row(0, " + width + ", 2)").get();
        Runs.run(x, "write(0, 1, " + written + ") -> 0");
        number(x, 0, 1, width, want);
        number(x, 0, 0, width, 0);
    }

    private static void writeCutsToOneByte() {
        cut(0, 5, 5);
        cut(0, 256, 0);
        cut(0, 256 + 3, 3);
        cut(0, -256 + 3, 3);
        cut(0, 65536 + 2, 2);
        cut(0, (1L << 32) + 4, 4);
        cut(0, Long.MIN_VALUE + 1, 1);
        cut(0, 127, -2);
        cut(0, 128, -2);
        cut(0, 255, -2);
        cut(0, -1, -2);
        cut(0, Long.MAX_VALUE, -2);
    }

    private static void writeCutsToTwoBytes() {
        cut(1, 256 + 3, -2);
        cut(1, 65536, 0);
        cut(1, 65536 + 3, 3);
        cut(1, -65536 + 3, 3);
        cut(1, (1L << 32) + 4, 4);
        cut(1, Long.MIN_VALUE + 1, 1);
        cut(1, 32768, -2);
        cut(1, 65535, -2);
        cut(1, Long.MAX_VALUE, -2);
    }

    private static void writeCutsToFourBytes() {
        cut(2, 256 + 3, -2);
        cut(2, 65536 + 3, -2);
        cut(2, 1L << 32, 0);
        cut(2, (1L << 32) + 4, 4);
        cut(2, -(1L << 32) + 4, 4);
        cut(2, Long.MIN_VALUE + 1, 1);
        cut(2, 1L << 31, -2);
        cut(2, (1L << 32) - 1, -2);
    }

    private static void writeCutsNothingOfEight() {
        cut(3, 5, 5);
        cut(3, 256 + 3, -2);
        cut(3, 65536 + 3, -2);
        cut(3, (1L << 32) + 4, -2);
        cut(3, (1L << 63) + 1, -2);
        cut(3, Long.MIN_VALUE, -2);
        cut(3, Long.MAX_VALUE, -2);
        cut(3, -1, -2);
    }

    private static void pasteHasSlots() {
        Supplier<HassockRoof> made = Runs.of(LINE, "row(0, 0, 2)", "row(1, 0, 2)", "row(2, 0, 2)", "row(3, 0, 2)");
        Runs.bounds(made, "paste(#, 0, 1, 0, 2)", 0, 3, -2);
        Runs.bounds(made, "paste(1, 0, #, 0, 2)", 0, 3, -2);
        // Asked ahead of all others.
        Runs.refused(Runs.of(LINE), "paste(4, 0, 0, 0, 1) -> -2", "paste(0, 0, -1, 0, 1) -> -2",
                "paste(4, -1, 4, -1, -1) -> -2");
    }

    private static void pasteHasRows() {
        Supplier<HassockRoof> made = Runs.of(LINE, "row(0, 1, 2)");
        Runs.refused(made, "paste(0, 0, 1, 0, 1) -> -6", "paste(1, 0, 0, 0, 1) -> -6", "paste(2, 0, 3, 0, 1) -> -6",
                "paste(1, 0, 1, 0, 0) -> -6", "paste(0, -1, 1, 0, 1) -> -6", "paste(1, 0, 0, 9, 9) -> -6");
    }

    private static void pasteHasOneWidth() {
        for (int a = 0; a < 4; a++) {
            for (int b = 0; b < 4; b++) {
                Supplier<HassockRoof> made = Runs.of(LINE, "row(0, " + a + ", 2)", "row(1, " + b + ", 2)",
                        "write(0, 0, 4)");
                if (a != b) {
                    Runs.refused(made, "paste(0, 0, 1, 0, 1) -> -8", "paste(0, 0, 1, 0, 0) -> -8",
                            "paste(0, -1, 1, 0, 1) -> -8", "paste(0, 0, 1, 0, 3) -> -8");
                } else {
                    HassockRoof x = made.get();
                    Runs.run(x, "paste(0, 0, 1, 0, 1) -> 0");
                    number(x, 1, 0, a, 4);
                }
            }
        }
    }

    /** From a row of five to a row of nine: what is asked of the first one. */
    private static final Supplier<HassockRoof> FIVE_AND_NINE = Runs.of(LINE, "row(0, 0, 5)", "row(1, 0, 9)",
            "write(0, 0, 1)", "write(0, 4, 2)", "write(1, 8, 3)");

    private static void pasteStaysWithinItsRow() {
        Runs.bounds(FIVE_AND_NINE, "paste(0, #, 1, 0, 1)", 0, 4, -7);
        Runs.bounds(FIVE_AND_NINE, "paste(0, #, 1, 0, 3)", 0, 2, -7);
        Runs.bounds(FIVE_AND_NINE, "paste(0, 0, 1, 0, #)", 0, 5, -7);
        Runs.refused(FIVE_AND_NINE, "paste(0, 2147483647, 1, 0, 2147483647) -> -7", "paste(0, 3, 0, 0, 3) -> -7",
                "paste(0, 0, 1, 0, -1) -> -7", "paste(0, 5, 1, 5, -1) -> -7");
    }

    private static void pasteStaysWithinTheOther() {
        Runs.bounds(FIVE_AND_NINE, "paste(0, 0, 1, #, 1)", 0, 8, -7);
        Runs.bounds(FIVE_AND_NINE, "paste(0, 0, 1, #, 5)", 0, 4, -7);
        Runs.bounds(FIVE_AND_NINE, "paste(1, 0, 0, 0, #)", 0, 5, -7);
        Runs.refused(FIVE_AND_NINE, "paste(0, 0, 1, 2147483647, 1) -> -7", "paste(0, 1, 1, 2147483647, 2147483647) -> -7",
                "paste(0, 0, 0, 1, 5) -> -7");
        // Nothing of what would fit is put.
        HassockRoof x = FIVE_AND_NINE.get();
        Runs.run(x, "paste(0, 0, 1, 8, 2) -> -7", "paste(0, 4, 1, 0, 2) -> -7");
        number(x, 1, 8, 0, 3);
        number(x, 1, 0, 0, 0);
    }

    private static void pasteOfNothing() {
        HassockRoof x = FIVE_AND_NINE.get();
        Runs.run(x, "paste(0, 0, 1, 8, 0) -> 0", "paste(0, 5, 1, 9, 0) -> 0", "paste(0, 5, 0, 5, 0) -> 0");
        number(x, 1, 8, 0, 3);
        Runs.refused(FIVE_AND_NINE, "paste(0, -1, 1, 0, 0) -> -7", "paste(0, 0, 1, -1, 0) -> -7");
        x = Runs.of(LINE, "row(0, 0, 0)", "row(1, 0, 0)").get();
        Runs.run(x, "paste(0, 0, 1, 0, 0) -> 0", "paste(0, 0, 1, 0, 1) -> -7", "paste(0, 0, 0, 0, 0) -> 0");
    }

    private static void pasteOfAllSixty() {
        HassockRoof x = Runs.of(LINE, "row(0, 3, 60)", "row(1, 3, 60)").get();
        for (int i = 0; i < 60; i++) {
            x.write(0, i, i % 6);
        }
        Runs.run(x, "paste(0, 0, 1, 0, 60) -> 0", "paste(0, 0, 1, 0, 61) -> -7", "paste(0, 1, 1, 0, 60) -> -7");
        for (int i = 0; i < 60; i++) {
            number(x, 1, i, 3, i % 6);
        }
    }

    /** "(or its own) .. as they were": rows that overlap, both ways, of each width. */
    private static void pasteAsTheyWere() {
        for (int width = 0; width < 4; width++) {
            String[] calls = {"row(0, " + width + ", 5)", "write(0, 0, 1)", "write(0, 1, 2)", "write(0, 2, 3)",
                "write(0, 3, 4)", "write(0, 4, 5)"};
            HassockRoof x = Runs.of(LINE, calls).get();
            Runs.run(x, "paste(0, 0, 0, 1, 4) -> 0");
            int[] up = {1, 1, 2, 3, 4};
            HassockRoof y = Runs.of(LINE, calls).get();
            Runs.run(y, "paste(0, 1, 0, 0, 4) -> 0");
            int[] down = {2, 3, 4, 5, 5};
            HassockRoof z = Runs.of(LINE, calls).get();
            Runs.run(z, "paste(0, 0, 0, 0, 5) -> 0", "row(1, " + width + ", 2) -> 0", "paste(0, 3, 1, 0, 2) -> 0");
            for (int i = 0; i < 5; i++) {
                number(x, 0, i, width, up[i]);
                number(y, 0, i, width, down[i]);
                number(z, 0, i, width, i + 1);
            }
            number(z, 1, 0, width, 4);
            number(z, 1, 1, width, 5);
        }
    }

    private static void slotsAreCounted() {
        HassockRoof x = new HassockRoof();
        Runs.run(x, "count(11) -> 0", "row(3, 3, 0) -> 0", "count(11) -> 1", "row(3, 0, 60) -> 0", "count(11) -> 1",
                "row(0, 0, 1) -> 0", "row(1, 0, 1) -> 0", "row(2, 0, 1) -> 0", "count(11) -> 4");
    }

    /** A ROOF taken, gone, or gone back to leaves SLOTS as they are. */
    private static void slotsAreNoPartOfTheRoof() {
        HassockRoof x = Runs.of(LINE, "row(0, 0, 1)", "image(0)", "write(0, 0, 4)", "back(0)").get();
        number(x, 0, 0, 0, 4);
        Runs.run(x, "roof() -> 0", "count(11) -> 2", "write(0, 0, 5) -> 0", "back(0) -> 0");
        number(x, 0, 0, 0, 5);
        Check.tell(x, LINE);
        number(x, 0, 0, 0, 5);
        Runs.run(x, "clear(0) -> -2", "anew() -> 0", "shifts(0) -> 5");
    }
}

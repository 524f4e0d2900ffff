/** Promises 66 to 68: row, write, paste. */
final class SlotTest {
    public static void main(String[] args) {
        rows();
        writes();
        pastes();
        wrongPastes();
        Check.finish();
    }

    private static void rows() {
        HassockRoof x = new HassockRoof();
        Check.due("row(-1, 0, 1)", x.row(-1, 0, 1), -2);
        Check.due("row(4, 0, 1)", x.row(4, 0, 1), -2);
        Check.due("row(0, -1, 1)", x.row(0, -1, 1), -2);
        Check.due("row(0, 4, 1)", x.row(0, 4, 1), -2);
        Check.due("row(0, 0, 61)", x.row(0, 0, 61), -2);
        Check.due("row(0, 0, -1)", x.row(0, 0, -1), -3);
        Check.due("row(4, 0, -1)", x.row(4, 0, -1), -2);
        Check.due("row(0, 4, -1)", x.row(0, 4, -1), -2);
        Check.due("no slot held", x.count(11), 0);
        Check.due("row(0, 0, 60)", x.row(0, 0, 60), 0);
        Check.due("row(3, 3, 0)", x.row(3, 3, 0), 0);
        Check.due("two held", x.count(11), 2);
        Check.due("write(0, 59)", x.write(0, 59, 1), 0);
        Check.due("row(0, 0, -1) again", x.row(0, 0, -1), -3);
        Check.due("the slot stays", x.write(0, 59, 1), 0);
        Check.due("row(0, 1, 2)", x.row(0, 1, 2), 0);
        Check.due("in place of another", x.write(0, 2, 1), -7);
    }

    private static void writes() {
        HassockRoof x = Check.told(Check.SMALL);
        Check.due("write(-1)", x.write(-1, 0, 0), -2);
        Check.due("write(4)", x.write(4, 0, 0), -2);
        Check.due("write to nothing", x.write(0, 0, 0), -6);
        x.row(0, 0, 2);
        Check.due("write(0, 2)", x.write(0, 2, 0), -7);
        Check.due("write(0, -1)", x.write(0, -1, 0), -7);
        // The row 0, 1 needs no shifts: cut to the width it is that row, uncut it is none.
        for (int width = 0; width < 4; width++) {
            x.row(0, width, 2);
            Check.due("write", x.write(0, 1, width == 3 ? 1 : (1L << (8 << width)) + 1), 0);
            Check.due("cut to " + (1 << width), x.shifts(0), 0);
            Check.due("write", x.write(0, 1, width == 3 ? -1 : (1L << (8 << width) - 1) + 1), 0);
            Check.due("not cut to less than " + (1 << width), x.shifts(0), -2);
        }
        x.row(0, 0, 2);
        Check.due("all 0 at first", x.shifts(0), -2);
        x.write(0, 1, 2);
        Check.due("shifts", x.shifts(0), 1);
        x.row(0, 0, 2);
        Check.due("all 0 anew", x.shifts(0), -2);
        x.write(0, 0, 2);
        x.row(0, 0, 2);
        x.write(0, 1, 1);
        Check.due("the first is 0 anew: 0, 1", x.shifts(0), 0);
    }

    private static void pastes() {
        HassockRoof x = Check.told(Check.SMALL);
        Check.fill(x, 0, 2, 0, 2, 0, 1);
        Check.fill(x, 1, 2, 0, 0);
        Check.due("paste", x.paste(0, 0, 1, 0, 2), 0);
        Check.due("0, 2", x.shifts(1), 1);
        Check.due("paste", x.paste(0, 3, 1, 1, 1), 0);
        Check.due("0, 1", x.shifts(1), 0);
        Check.due("paste nothing at the end", x.paste(0, 4, 1, 2, 0), 0);
        // Onto itself, as they were: 9 0 1 becomes 9 9 0, and 0 1 9 becomes 1 9 9.
        Check.fill(x, 2, 2, 0, 1, 2, 2);
        Check.due("to its own, up", x.paste(2, 0, 2, 1, 3), 0);
        Check.fill(x, 3, 2, 0, 0);
        Check.due("paste", x.paste(2, 1, 3, 0, 2), 0);
        Check.due("0, 1 stand at 1 now", x.shifts(3), 0);
        Check.due("paste", x.paste(2, 2, 3, 0, 2), 0);
        Check.due("1, 2 at 2", x.shifts(3), 2);
        Check.due("to its own, down", x.paste(2, 1, 2, 0, 3), 0);
        Check.due("paste", x.paste(2, 0, 3, 0, 2), 0);
        Check.due("0, 1 again", x.shifts(3), 0);
    }

    private static void wrongPastes() {
        HassockRoof x = new HassockRoof();
        Check.due("no slot", x.paste(-1, 0, 0, 0, 0), -2);
        Check.due("no slot", x.paste(0, 0, 4, 0, 0), -2);
        Check.due("nothing", x.paste(0, 0, 0, 0, 0), -6);
        x.row(0, 1, 3);
        Check.due("nothing there", x.paste(0, 0, 1, 0, 0), -6);
        Check.due("nothing here", x.paste(1, 0, 0, 0, 0), -6);
        Check.due("nothing is asked ahead of beyond", x.paste(1, 9, 0, 0, 9), -6);
        x.row(1, 0, 3);
        Check.due("not of one width", x.paste(0, 0, 1, 0, 1), -8);
        Check.due("width is asked ahead of beyond", x.paste(0, 0, 1, 0, 9), -8);
        x.row(1, 1, 2);
        int[][] bad = {{-1, 0, 1}, {0, -1, 1}, {0, 0, -1}, {1, 0, 3}, {0, 0, 3}, {0, 1, 2}, {3, 0, 1},
            {Integer.MAX_VALUE, 0, 1}, {0, Integer.MAX_VALUE, 1}, {0, 0, Integer.MAX_VALUE},
            {Integer.MAX_VALUE, 0, Integer.MAX_VALUE}, {-1, 0, 0}, {0, -1, 0}};
        for (int[] b : bad) {
            Check.due("paste(0, " + b[0] + ", 1, " + b[1] + ", " + b[2] + ")", x.paste(0, b[0], 1, b[1], b[2]), -7);
        }
    }
}

/** Promises 1 to 5: a new object, feed, end, roof, fault. */
final class TapeTest {
    public static void main(String[] args) {
        newObject();
        feedAndEnd();
        roofTakesTheTape();
        faultsOne();
        faultsTwo();
        faultsThree();
        tokens();
        Check.finish();
    }

    private static void newObject() {
        HassockRoof x = new HassockRoof();
        for (int what = 0; what <= 11; what++) {
            Check.due("count(" + what + ") of a new object", x.count(what), 0);
        }
        Check.due("fault(0) ahead of any", x.fault(0), 0);
        Check.due("fault(1) ahead of any", x.fault(1), -1);
        Check.due("fault(2)", x.fault(2), -1);
        Check.due("fault(-1)", x.fault(-1), -1);
        Check.due("blind() without a roof", x.blind(), -2);
    }

    private static void feedAndEnd() {
        HassockRoof x = new HassockRoof();
        for (int i = 1; i <= 35; i++) {
            Check.due("feed", x.feed(1, 2, 3, 4, 5), 20 * i);
        }
        Check.due("feed beyond 700", x.feed(1, 2, 3, 4, 5), -1);
        Check.due("count(10)", x.count(10), 700);
        Check.due("end(701)", x.end(701), -1);
        Check.due("end(-1)", x.end(-1), -1);
        Check.due("count(10) stays", x.count(10), 700);
        Check.due("end(700)", x.end(700), 700);
        Check.due("end(681)", x.end(681), 681);
        Check.due("feed to 701", x.feed(1, 2, 3, 4, 5), -1);
        Check.due("count(10) stays", x.count(10), 681);
        Check.due("end(680)", x.end(680), 680);
        Check.due("feed to 700", x.feed(1, 2, 3, 4, 5), 700);
        Check.due("end(0)", x.end(0), 0);
        Check.due("count(10)", x.count(10), 0);
        // The highest byte of a number comes first.
        Check.due("feed", x.feed(0x726f6f66, 0x20796561, 0x72732031, 0x206c6177, 0x2030206f), 20);
        Check.due("feed", x.feed(0x64647320, 0x303b2020, 0, 0, 0), 40);
        Check.due("end", x.end(28), 28);
        Check.due("roof", x.roof(), 1);
        Check.due("years", x.count(0), 1);
    }

    private static void roofTakesTheTape() {
        HassockRoof x = new HassockRoof();
        Check.due("roof of nothing", x.roof(), 0);
        Check.due("no roof", x.blind(), -2);
        Check.due("small", Check.tell(x, Check.SMALL), 13);
        Check.due("fault(0)", x.fault(0), 0);
        Check.due("fault(1)", x.fault(1), -1);
        Check.due("the tape is empty then", x.count(10), 0);
        Check.due("clear", x.clear(0), 1);
        Check.due("acts", x.count(8), 1);
        Check.due("faulty", Check.tell(x, "roof years 13 law 0 odds 0;"), -4);
        Check.due("fault(0)", x.fault(0), 2);
        Check.due("fault(1)", x.fault(1), 11);
        Check.due("all stays: places", x.count(3), 3);
        Check.due("all stays: acts", x.count(8), 1);
        Check.due("the tape is empty then too", x.count(10), 0);
        Check.due("the next text comes from its start", Check.tell(x, "roof years 0"), -4);
        Check.due("fault(0)", x.fault(0), 2);
        Check.due("fault(1)", x.fault(1), 11);
        Check.due("all stays: places", x.count(3), 3);
        Check.due("bare behind a fault", Check.tell(x, Check.BARE), 1);
        Check.due("years", x.count(0), 1);
        Check.due("in place of another", Check.tell(x, Check.SMALL), 13);
        Check.due("nothing done", x.count(8), 0);
        Check.due("bare", Check.tell(x, Check.BARE), 1);
        Check.due("no places of the other", x.count(3), 0);
        Check.due("blind", x.blind(), 0);
        Check.tell(x, Check.SMALL.replace("law 0", "law 2"));
        x.clear(0);
        Check.due("blanks alone", Check.tell(x, " \n  "), 0);
        Check.due("none then", x.blind(), -2);
        for (int what = 0; what <= 11; what++) {
            Check.due("count(" + what + ") without a roof", x.count(what), 0);
        }
        Check.due("fault(0)", x.fault(0), 0);
    }

    /** A text, its fault and where. */
    private static void faulty(String text, int fault, int place) {
        HassockRoof x = new HassockRoof();
        Check.due("roof() of " + text, Check.tell(x, text), -4);
        Check.due("fault(0) of " + text, x.fault(0), fault);
        Check.due("fault(1) of " + text, x.fault(1), place);
        Check.due("fault(2)", x.fault(2), -1);
        Check.due("no roof", x.count(9), 0);
    }

    private static final String B = Check.BARE;

    private static void faultsOne() {
        faulty("place 1 1;", 1, 0);
        faulty(";", 1, 0);
        faulty("7", 1, 0);
        faulty("roof", 1, 4);
        faulty("roof  ", 1, 6);
        faulty("roof years 1 law 0 odds 0", 1, 25);
        faulty("roof years 1 law 0 odds 0 \n", 1, 27);
        faulty("roof law 0", 1, 5);
        faulty("roofyears 1 law 0 odds 0;", 1, 0);
        faulty("roof years x", 1, 11);
        faulty("roof years 1 law 0 odds 0 0;", 1, 26);
        faulty(B + "roof years 1 law 0 odds 0;", 1, 26);
        faulty(B + ";", 1, 26);
        faulty(B + "foo", 1, 26);
        faulty(B + "Place 1 1;", 1, 26);
        faulty(B + "place 1 1,", 1, 35);
        faulty(B + "place 1 -1;", 1, 34);
        faulty(B + "place 1\t1;", 1, 33);
        faulty(B + "place 1", 1, 33);
        faulty(B + "place 1;", 1, 33);
        faulty(B + "place 1 1 1;", 1, 36);
        faulty(B + "mark 1 1;", 1, 34);
        faulty(B + "mark 1 1 worth;", 1, 40);
        faulty(B + "place 1 1;looker 0 hopes 0;", 1, 43);
        faulty(B + "place 1 1;mark 2 2 worth 1;looker at 0;", 1, 64);
        faulty(B + (char) 233, 1, 26);
        faulty(B + (char) 0, 1, 26);
        faulty(B + "placex 1 1;", 1, 26);
        faulty(B + "pl ace 1 1;", 1, 26);
    }

    private static void faultsTwo() {
        faulty("roof years 0", 2, 11);
        faulty("roof years 13", 2, 11);
        faulty("roof years 1 law 4", 2, 17);
        faulty("roof years 1 law 0 odds 11", 2, 24);
        faulty("roof years 99999999999999999999999999", 2, 11);
        faulty("roof years 4294967297 law 0 odds 0;", 2, 11);
        faulty(B + "place 31 1;", 2, 32);
        faulty(B + "place 1 31;", 2, 34);
        faulty(B + "place 1 1;place 1 1;", 2, 44);
        faulty(B + "place 1 1;mark 1 1 worth 5;", 2, 43);
        faulty(B + "mark 1 1 worth 5;flue 1 1;", 2, 50);
        faulty(B + "flue 1 1;mark 1 1 worth 5;", 2, 42);
        faulty(B + "flue 1 1;flue 1 1;", 2, 42);
        faulty(B + "flue 1 1;place 1 1;", 2, 43);
        faulty(B + "mark 2 2 worth 100", 2, 41);
        faulty(B + "way 0 1;", 2, 30);
        faulty(B + "place 1 1;place 2 2;way 0 0;", 2, 52);
        faulty(B + "place 1 1;place 2 2;way 0 2;", 2, 52);
        faulty(B + "place 1 1;place 2 2;way 2 0;", 2, 50);
        faulty(B + "place 1 1;looker at 1 hopes 0;", 2, 46);
        faulty(B + "place 1 1;looker at 0 hopes 0;", 2, 54);
        faulty(B + "place 1 1;mark 2 2 worth 5;looker at 0 hopes 0;looker at 0 hopes 0;", 2, 83);
        faulty(B + "looker at 0 hopes 0;", 2, 36);
    }

    private static String repeated(String line, int from, int to, String rest) {
        StringBuilder text = new StringBuilder();
        for (int i = from; i < to; i++) {
            text.append(line).append(i).append(rest);
        }
        return text.toString();
    }

    private static void faultsThree() {
        String places = repeated("place 0 ", 1, 7, ";");
        faulty(B + places + "place", 3, 86);
        faulty(B + places + "place 99 0", 3, 86);
        faulty(B + repeated("mark 0 ", 1, 8, " worth 1;") + "mark", 3, 145);
        faulty(B + repeated("flue 0 ", 1, 7, ";") + "flue", 3, 80);
        faulty(B + "place 1 1;place 2 2;" + "way 0 1;".repeat(10) + "way", 3, 126);
        String full = B + places + "mark 9 9 worth 1;" + repeated("looker at ", 0, 6, " hopes 0;");
        faulty(full + "looker", 3, 223);
        HassockRoof x = Check.told(full);
        Check.due("lines", x.count(9), 14);
        Check.due("same ways", Check.tell(x, B + "place 1 1;place 2 2;" + "way 0 1;".repeat(10)), 13);
        Check.due("ways", x.count(6), 10);
    }

    private static void tokens() {
        HassockRoof x = new HassockRoof();
        Check.due("as tight as can be", Check.tell(x, "roof years12law3odds10;place0 30;"), 2);
        Check.due("years", x.count(0), 12);
        Check.due("law", x.count(1), 3);
        Check.due("odds", x.count(2), 10);
        Check.due("y", x.place(0, 1), 30);
        Check.due("wide", Check.tell(x, "\n roof\nyears 001 law 00 odds\n\n0 ; mark 00000000000000000000030 0"
                + " worth 99 ; \n"), 2);
        Check.due("x", x.mark(0, 0), 30);
        Check.due("worth", x.mark(0, 2), 99);
    }
}

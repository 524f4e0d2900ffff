import java.math.BigInteger;
import java.nio.charset.StandardCharsets;
import java.util.ArrayList;
import java.util.HashSet;
import java.util.List;
import java.util.Map;
import java.util.Random;
import java.util.Set;
import java.util.regex.Matcher;
import java.util.regex.Pattern;

/** Promises 4 and 5 on spoilt texts: the first fault by its place, read once more by patterns. */
final class FaultFuzzTest {
    private static final Pattern TOKEN = Pattern.compile("[a-z]+|[0-9]+|[^ \n]", Pattern.DOTALL);
    private static final Map<String, String> LINES = Map.of(
            "roof", "years Y law L odds O", "place", "X Z", "mark", "X Z worth W", "flue", "X Z",
            "way", "P Q", "looker", "at F hopes M");
    private static final Map<String, Integer> MOST = Map.of("place", 6, "mark", 7, "flue", 6, "way", 10,
            "looker", 6, "roof", 1);

    private final Map<String, List<int[]>> found = Map.of("place", new ArrayList<>(), "mark", new ArrayList<>(),
            "flue", new ArrayList<>(), "way", new ArrayList<>(), "looker", new ArrayList<>(),
            "roof", new ArrayList<>());
    private final Set<String> points = new HashSet<>();
    private final Set<Integer> taken = new HashSet<>();
    private int fault = 0;
    private int place = -1;
    private int lines = 0;

    /** Reads a text; answers the number of lines, or -4. */
    private int read(String text) {
        List<String> tokens = new ArrayList<>();
        List<Integer> starts = new ArrayList<>();
        Matcher m = TOKEN.matcher(text);
        while (m.find()) {
            tokens.add(m.group());
            starts.add(m.start());
        }
        tokens.add("");
        starts.add(text.length());
        int i = 0;
        while (fault == 0 && !tokens.get(i).isEmpty()) {
            String head = tokens.get(i);
            boolean right = LINES.containsKey(head) && head.equals("roof") == (lines == 0);
            int code = !right ? 1 : found.get(head).size() >= MOST.get(head) ? 3 : 0;
            List<Integer> numbers = new ArrayList<>();
            String[] rest = right ? (LINES.get(head) + " ;").split(" ") : new String[0];
            int k = 0;
            while (code == 0 && k < rest.length) {
                i++;
                code = judge(rest[k], tokens.get(i), numbers);
                k++;
            }
            if (code != 0) {
                fault = code;
                place = starts.get(i);
                return -4;
            }
            found.get(head).add(numbers.stream().mapToInt(n -> n).toArray());
            lines++;
            i++;
        }
        return lines;
    }

    private int judge(String wanted, String token, List<Integer> numbers) {
        if (!Character.isUpperCase(wanted.charAt(0))) {
            return wanted.equals(token) ? 0 : 1;
        }
        if (!token.matches("[0-9]+")) {
            return 1;
        }
        BigInteger big = new BigInteger(token);
        int n = big.bitLength() > 20 ? 1 << 20 : big.intValue();
        int places = found.get("place").size();
        boolean right = switch (wanted) {
            case "Y" -> n >= 1 && n <= 12;
            case "L" -> n <= 3;
            case "O" -> n <= 10;
            case "X" -> n <= 30;
            case "Z" -> n <= 30 && points.add(numbers.get(0) + "," + n);
            case "W" -> n <= 99;
            case "P" -> n < places;
            case "Q" -> n < places && n != numbers.get(0);
            case "F" -> n < places && taken.add(n);
            default -> n < found.get("mark").size();
        };
        numbers.add(n);
        return right ? 0 : 2;
    }

    private static String text(Random r) {
        StringBuilder t = new StringBuilder("roof years " + (1 + r.nextInt(12)) + " law " + r.nextInt(4)
                + " odds " + r.nextInt(11) + ";");
        int places = 1 + r.nextInt(7);
        int marks = 1 + r.nextInt(8);
        for (int p = 0; p < places; p++) {
            t.append("place ").append(p).append(" ").append(r.nextInt(31)).append(" ; ");
        }
        for (int m = 0; m < marks; m++) {
            t.append("mark ").append(10 + m).append(" ").append(r.nextInt(31)).append(" worth ")
                    .append(r.nextInt(100)).append(";\n");
        }
        for (int f = r.nextInt(8); f > 0; f--) {
            t.append("flue ").append(19 + f).append(" ").append(r.nextInt(31)).append(";");
        }
        for (int w = places > 1 ? r.nextInt(12) : 0; w > 0; w--) {
            t.append("way ").append(r.nextInt(places - 1)).append(" ").append(places - 1).append(";");
        }
        for (int l = r.nextInt(places + 1); l > 0; l--) {
            t.append("looker at ").append(l - 1).append(" hopes ").append(r.nextInt(marks)).append(";");
        }
        return t.toString();
    }

    private static String spoilt(String text, Random r) {
        String bits = "0123456789;  \nzaplcemrkfuworthyAZ\t!\u0000\u007f\u0080\u00ff";
        StringBuilder t = new StringBuilder(text);
        for (int n = r.nextInt(3); n > 0; n--) {
            int at = r.nextInt(t.length());
            switch (r.nextInt(4)) {
                case 0 -> t.setCharAt(at, bits.charAt(r.nextInt(bits.length())));
                case 1 -> t.deleteCharAt(at);
                case 2 -> t.insert(at, bits.charAt(r.nextInt(bits.length())));
                default -> t.setLength(at + 1);
            }
        }
        return t.toString();
    }

    public static void main(String[] args) {
        int[] faults = new int[4];
        for (int seed = 0; seed < 20000; seed++) {
            Random r = new Random(seed);
            String text = spoilt(text(r), r);
            if (text.length() > 700) {
                continue;
            }
            FaultFuzzTest want = new FaultFuzzTest();
            HassockRoof x = new HassockRoof();
            Check.due("roof() of " + text, Check.tell(x, text), want.read(text));
            Check.due("fault(0) of " + text, x.fault(0), want.fault);
            Check.due("fault(1) of " + text, x.fault(1), want.place);
            Check.due("bytes", text.getBytes(StandardCharsets.ISO_8859_1).length, text.length());
            faults[want.fault]++;
            if (want.fault == 0) {
                Check.due("places", x.count(3), want.found.get("place").size());
                Check.due("marks", x.count(4), want.found.get("mark").size());
                Check.due("flues", x.count(5), want.found.get("flue").size());
                Check.due("ways", x.count(6), want.found.get("way").size());
                Check.due("lookers", x.count(7), want.found.get("looker").size());
            }
        }
        for (int f = 0; f < 4; f++) {
            Check.holds("texts of each fault: " + f + " has " + faults[f], faults[f] > 100);
        }
        Check.finish();
    }
}

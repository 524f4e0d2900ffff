import java.lang.reflect.Method;
import java.lang.reflect.Modifier;
import java.nio.file.Files;
import java.nio.file.Path;
import java.util.HashSet;
import java.util.Set;
import java.util.regex.Matcher;
import java.util.regex.Pattern;

/** What README.md tells a user holds: its way to feed a text, its roof, and each answer, in its order. */
final class ReadmeTest {
    public static void main(String[] args) throws Exception {
        String page = Files.readString(Path.of("README.md"));
        HassockRoof x = new HassockRoof();
        Check.due("the roof of README.md", tell(x, block(page, "text")), 13);
        Set<String> asked = new HashSet<>(Set.of("feed", "end", "roof", "fault"));
        Matcher answers = Pattern.compile("`((\\w+)\\([-0-9, ]*\\))` is (-?[0-9]+)").matcher(page);
        while (answers.find()) {
            Check.due(answers.group(1), Runs.call(x, answers.group(1)), Long.parseLong(answers.group(3)));
            asked.add(answers.group(2));
        }
        for (Method m : HassockRoof.class.getDeclaredMethods()) {
            if (Modifier.isPublic(m.getModifiers())) {
                Check.holds(m.getName() + " is told", page.contains("`" + m.getName() + "("));
                Check.holds(m.getName() + " has an answer", asked.contains(m.getName()));
            }
        }
        String own = Files.readString(Path.of("src/test/java/ReadmeTest.java"));
        Check.holds("tell() is the page's", flat(own).contains(flat(block(page, "java"))));
        Check.finish();
    }

    private static String block(String page, String language) {
        int start = page.indexOf("```" + language + "\n") + language.length() + 4;
        return page.substring(start, page.indexOf("```", start));
    }

    private static String flat(String code) {
        return code.replaceAll("\\s+", " ").trim();
    }

    static int tell(HassockRoof x, String text) {
        for (int i = 0; i < text.length(); i += 20) {
            int[] five = new int[5];
            for (int k = 0; k < 20 && i + k < text.length(); k++) {
                five[k / 4] |= (text.charAt(i + k) & 255) << 24 - 8 * (k % 4);
            }
            x.feed(five[0], five[1], five[2], five[3], five[4]);
        }
        x.end(text.length());
        return x.roof();
    }
}

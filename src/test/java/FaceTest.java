import java.lang.reflect.Constructor;
import java.lang.reflect.Field;
import java.lang.reflect.Method;
import java.lang.reflect.Modifier;
import java.nio.file.Files;
import java.nio.file.Path;
import java.util.ArrayList;
import java.util.Arrays;
import java.util.List;
import java.util.Random;
import java.util.Set;
import java.util.TreeSet;
import java.util.regex.Matcher;
import java.util.regex.Pattern;

/** The face is the document's and no more, and no call of it throws, whatever it is asked. */
final class FaceTest {
    private static final String FACE = "feed:5 end:1 roof:0 fault:1 place:2 mark:2 flue:2 looker:2 ways:1 sees:1 "
            + "from:1 hides:2 worth:1 blind:0 lost:0 best:0 at:2 who:2 seen:2 joy:2 life:1 sad:0 drill:1 glad:1 "
            + "often:1 round:0 walks:1 feast:0 envies:2 trade:1 roster:0 put:1 rosters:0 fair:0 shifts:1 first:1 "
            + "reach:0 far:0 lot:3 share:2 all:1 watch:0 watches:0 firsts:2 ask:2 leaves:2 laws:2 by:1 law:0 "
            + "fell:0 rests:2 gets:4 chance:4 mean:3 swap:3 clear:1 undo:0 anew:0 drawn:2 luck:3 rate:2 count:1 "
            + "image:1 back:1 row:3 write:3 paste:5";

    public static void main(String[] args) throws Exception {
        face();
        wildCalls();
        source();
        Check.finish();
    }

    private static void face() throws Exception {
        Set<String> got = new TreeSet<>();
        Set<String> hidden = new TreeSet<>();
        for (Method m : HassockRoof.class.getDeclaredMethods()) {
            if (Modifier.isPublic(m.getModifiers())) {
                got.add(m.getName() + ":" + m.getParameterCount());
                Check.holds(m + " is not static", !Modifier.isStatic(m.getModifiers()));
                Class<?> type = m.getName().equals("mean") ? long.class : int.class;
                Check.holds(m + " answers " + type, m.getReturnType() == type);
            } else {
                Check.holds(m + " is private", Modifier.isPrivate(m.getModifiers()));
                hidden.add(m.getName());
            }
        }
        Check.holds("the methods: " + got, got.equals(new TreeSet<>(Arrays.asList(FACE.split(" ")))));
        Check.due("68 promises", got.size() + 1, 68);
        got.forEach(g -> Check.holds("no private " + g, !hidden.contains(g.substring(0, g.indexOf(':')))));
        Check.holds("final", Modifier.isFinal(HassockRoof.class.getModifiers()));
        for (Field f : HassockRoof.class.getDeclaredFields()) {
            boolean isNone = f.getName().equals("NONE");
            Check.holds(f + " is private", isNone || Modifier.isPrivate(f.getModifiers()));
            Check.holds(f + " is final", Modifier.isFinal(f.getModifiers()));
        }
        Check.due("NONE", HassockRoof.NONE, -1);
        Constructor<?>[] made = HassockRoof.class.getDeclaredConstructors();
        Check.due("one constructor", made.length, 1);
        Check.due("of nothing", made[0].getParameterCount(), 0);
        Class<?>[] inside = HassockRoof.class.getDeclaredClasses();
        Check.holds("at most twelve classes", inside.length + 1 <= 12);
        for (Class<?> c : inside) {
            Check.holds(c + " is static", Modifier.isStatic(c.getModifiers()));
            Check.holds(c + " is not public", !Modifier.isPublic(c.getModifiers()));
            Check.holds(c + " has few fields", c.getDeclaredFields().length <= 20 + 10);
            for (Method m : c.getDeclaredMethods()) {
                Check.holds(m + " has a name of its own",
                        got.stream().noneMatch(g -> g.startsWith(m.getName() + ":")));
                Check.holds(m + " takes seven at most", m.getParameterCount() <= 7);
            }
        }
    }

    private static int wildNumber(Random r) {
        switch (r.nextInt(10)) {
            case 0: return Integer.MIN_VALUE;
            case 1: return Integer.MAX_VALUE;
            case 2: return r.nextInt();
            case 3: return -1 - r.nextInt(3);
            default: return r.nextInt(r.nextBoolean() ? 3 : 13);
        }
    }

    /** All methods in wild order with wild numbers, on roofs and without. */
    private static void wildCalls() throws Exception {
        List<Method> methods = new ArrayList<>();
        for (Method m : HassockRoof.class.getDeclaredMethods()) {
            if (Modifier.isPublic(m.getModifiers())) {
                methods.add(m);
            }
        }
        methods.sort((a, b) -> a.getName().compareTo(b.getName()));
        String[] roofs = {Check.SMALL, Check.BARE, Check.BARE + "place 0 0;place 3 3;",
            Check.SMALL.replace("law 0", "law 3") + "looker at 2 hopes 2;", Check.SMALL.replace("law 0", "law 2"),
            Check.SMALL.replace("odds 5", "odds 10").replace("years 3", "years 12")};
        for (int seed = 0; seed < 600; seed++) {
            Random r = new Random(seed);
            HassockRoof x = new HassockRoof();
            for (int i = 0; i < 512; i++) {
                if (r.nextInt(60) == 0) {
                    x.end(0);
                    Check.tell(x, roofs[r.nextInt(roofs.length)]);
                }
                Method m = methods.get(r.nextInt(methods.size()));
                Object[] numbers = new Object[m.getParameterCount()];
                for (int k = 0; k < numbers.length; k++) {
                    numbers[k] = wildNumber(r);
                    if (m.getParameterTypes()[k] == long.class) {
                        numbers[k] = r.nextInt(5) == 0 ? r.nextLong() : (long) wildNumber(r);
                    }
                }
                long got = ((Number) m.invoke(x, numbers)).longValue();
                Check.holds(m.getName() + Arrays.toString(numbers) + " answered " + got, got >= -8 || got == -1000);
            }
        }
    }

    /** Rules of LANGUAGE.md that can be read off the text. */
    private static void source() throws Exception {
        String code = Files.readString(Path.of("src/main/java/HassockRoof.java"))
                .replaceAll("(?s)/\\*.*?\\*/", "").replaceAll("//[^\n]*", "");
        for (String word : "throw throws try catch synchronized assert import package double float".split(" ")) {
            Check.holds("no " + word, !Pattern.compile("\\b" + word + "\\b").matcher(code).find());
        }
        for (String sign : new String[] {"->", "::", "Exact", "NullPointer"}) {
            Check.holds("no " + sign, !code.contains(sign));
        }
        Matcher calls = Pattern.compile("\\b(Math|Integer|Long|System|Arrays)\\.(\\w+)").matcher(code);
        while (calls.find()) {
            Check.holds(calls.group(), Set.of("Math.max", "Math.min", "Integer.bitCount", "System.arraycopy")
                    .contains(calls.group()));
        }
        String[] lines = code.split("\n");
        int start = -1;
        for (int i = 0; i < lines.length; i++) {
            boolean opens = lines[i].matches("(    |        )[a-zA-Z].*\\) \\{");
            start = opens ? i : start;
            boolean closes = start >= 0 && lines[i].matches("(    |        )\\}");
            if (closes) {
                Check.holds("short: " + lines[start].trim(), i - start <= 60);
                start = -1;
            }
        }
    }
}

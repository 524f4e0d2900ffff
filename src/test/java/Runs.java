import java.lang.reflect.Method;
import java.lang.reflect.Modifier;
import java.util.ArrayList;
import java.util.HashMap;
import java.util.LinkedHashSet;
import java.util.List;
import java.util.Map;
import java.util.Set;
import java.util.function.Supplier;

/** Calls told as texts, "at(0, 1) -> 2", so that a test reads as a run of calls with what is due. */
final class Runs {
    /** The most of everything: 36 lines; from each place each mark is seen but those that a flue hides. */
    static final String FULL = full();
    private static final Map<String, Method> FACE = face();

    private Runs() {
    }

    private static String full() {
        StringBuilder text = new StringBuilder("roof years 12 law 3 odds 10;");
        for (int i = 0; i < 6; i++) {
            text.append("place ").append(5 * i).append(" 0;flue ").append(5 * i).append(" 29;");
        }
        for (int i = 0; i < 7; i++) {
            text.append("mark ").append(5 * i).append(" 30 worth ").append(93 + i).append(";");
        }
        for (int i = 0; i < 10; i++) {
            text.append("way ").append(i % 5).append(" ").append(i % 5 + 1).append(";");
        }
        for (int i = 0; i < 6; i++) {
            text.append("looker at ").append(i).append(" hopes ").append(i).append(";");
        }
        return text.toString();
    }

    private static Map<String, Method> face() {
        Map<String, Method> found = new HashMap<>();
        for (Method m : HassockRoof.class.getDeclaredMethods()) {
            if (Modifier.isPublic(m.getModifiers())) {
                found.put(m.getName(), m);
            }
        }
        return found;
    }

    /** Answers a call told as a text: "at(0, 1)". */
    static long call(HassockRoof x, String text) {
        int open = text.indexOf('(');
        Method method = FACE.get(text.substring(0, open));
        String inside = text.substring(open + 1, text.indexOf(')')).trim();
        String[] told = inside.isEmpty() ? new String[0] : inside.split(" *, *");
        Object[] numbers = new Object[told.length];
        for (int i = 0; i < told.length; i++) {
            long n = Long.parseLong(told[i]);
            if (method.getParameterTypes()[i] == long.class) {
                numbers[i] = n;
            } else {
                numbers[i] = Math.toIntExact(n);
            }
        }
        try {
            return ((Number) method.invoke(x, numbers)).longValue();
        } catch (ReflectiveOperationException e) {
            throw new IllegalStateException(text, e);
        }
    }

    /** Asks one call behind the other, each with its answer behind an arrow. */
    static void run(HassockRoof x, String... rows) {
        String behind = "";
        for (String row : rows) {
            int arrow = row.indexOf("->");
            String asked = row.substring(0, arrow).trim();
            Check.due(asked + behind, call(x, asked), Long.parseLong(row.substring(arrow + 2).trim()));
            behind = " behind " + asked;
        }
    }

    /** Objects that are told a text and called so, each anew. */
    static Supplier<HassockRoof> of(String text, String... calls) {
        return () -> {
            HassockRoof x = new HassockRoof();
            if (!text.isEmpty()) {
                Check.holds("told: " + text, Check.tell(x, text) > 0);
            }
            for (String c : calls) {
                call(x, c);
            }
            return x;
        };
    }

    /** Calls that are refused: each has its answer, and all that can be seen is as it was behind it. */
    static void refused(Supplier<HassockRoof> made, String... rows) {
        for (String row : rows) {
            HassockRoof x = made.get();
            List<Long> before = seen(x);
            run(x, row);
            List<Long> behind = seen(x);
            Check.holds("all stays behind " + row + ": " + before + " " + behind, before.equals(behind));
        }
    }

    /** A number (#) of a call: within its bounds the call is not refused, outside of them it is. */
    static void bounds(Supplier<HassockRoof> made, String pattern, long least, long most, long refusal) {
        Set<Long> inside = new LinkedHashSet<>(List.of(least, most, (least + most) / 2));
        Set<Long> outside = new LinkedHashSet<>(List.of(least - 1, most + 1, least - 1000, most + 256, most + 65536,
                (long) Integer.MIN_VALUE, (long) Integer.MIN_VALUE + least, (long) Integer.MAX_VALUE));
        for (long n : inside) {
            String asked = pattern.replace("#", Long.toString(n));
            if (least <= most) {
                long got = call(made.get(), asked);
                Check.holds(asked + " is not refused: " + got, got != refusal);
            }
        }
        for (long n : outside) {
            boolean isInside = n >= least && n <= most;
            if (!isInside && n >= Integer.MIN_VALUE && n <= Integer.MAX_VALUE) {
                refused(made, pattern.replace("#", Long.toString(n)) + " -> " + refusal);
            }
        }
    }

    /** What can be seen of an object without changing it, in some hundred calls. */
    static List<Long> seen(HassockRoof x) {
        List<Long> found = new ArrayList<>();
        for (int what = 0; what <= 11; what++) {
            found.add((long) x.count(what));
        }
        found.add((long) x.fault(0));
        found.add((long) x.fault(1));
        for (int p = 0; p < x.count(3); p++) {
            found.add(31L * x.place(p, 0) + x.place(p, 1));
            found.add((long) x.ways(p));
            found.add((long) x.sees(p));
        }
        for (int m = 0; m < x.count(4); m++) {
            found.add(31L * x.mark(m, 0) + x.mark(m, 1));
            found.add((long) x.mark(m, 2));
        }
        for (int f = 0; f < x.count(5); f++) {
            found.add(31L * x.flue(f, 0) + x.flue(f, 1));
            found.add((long) x.flue(f, 2));
        }
        for (int l = 0; l < x.count(7); l++) {
            found.add(31L * x.looker(l, 0) + x.looker(l, 1));
            found.add((long) x.at(l, 0));
            found.add((long) x.at(l, x.count(0)));
            found.add((long) x.life(l));
        }
        for (int s = 0; s < 4; s++) {
            found.add((long) x.shifts(s));
            found.add((long) x.firsts(s, 0));
        }
        return found;
    }
}

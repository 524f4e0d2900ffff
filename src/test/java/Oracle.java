import java.math.BigInteger;
import java.util.ArrayDeque;
import java.util.ArrayList;
import java.util.Arrays;
import java.util.HashMap;
import java.util.List;
import java.util.Map;

/** The document's terms once more, as plainly as can be: everything is tried out, nothing is kept. */
final class Oracle {
    int years;
    int law;
    int odds;
    final List<int[]> places = new ArrayList<>();
    final List<int[]> marks = new ArrayList<>();
    final List<int[]> flues = new ArrayList<>();
    final List<int[]> ways = new ArrayList<>();
    final List<int[]> lookers = new ArrayList<>();
    /** Looker, other, year; or flue, -1, -1. */
    final List<int[]> acts = new ArrayList<>();

    String text() {
        StringBuilder t = new StringBuilder("roof years " + years + " law " + law + " odds " + odds + ";");
        places.forEach(p -> t.append("place ").append(p[0]).append(' ').append(p[1]).append(';'));
        marks.forEach(m -> t.append("mark ").append(m[0]).append(' ').append(m[1]).append(" worth ")
                .append(m[2]).append(';'));
        flues.forEach(f -> t.append("flue ").append(f[0]).append(' ').append(f[1]).append(';'));
        ways.forEach(w -> t.append("way ").append(w[0]).append(' ').append(w[1]).append(';'));
        lookers.forEach(l -> t.append("looker at ").append(l[0]).append(" hopes ").append(l[1]).append(';'));
        return t.toString();
    }

    boolean stands(int flue) {
        return acts.stream().noneMatch(a -> a[2] < 0 && a[0] == flue);
    }

    // ---- II: a point is on the segment if both parts of the way are as long as the whole ----

    private static double length(int[] a, int[] b) {
        return Math.hypot(a[0] - b[0], a[1] - b[1]);
    }

    int hider(int place, int mark, int without) {
        for (int f = 0; f < flues.size(); f++) {
            double over = length(places.get(place), flues.get(f)) + length(flues.get(f), marks.get(mark))
                    - length(places.get(place), marks.get(mark));
            if (f != without && stands(f) && over < 1e-9) {
                return f;
            }
        }
        return -1;
    }

    boolean sees(int place, int mark, int without) {
        return hider(place, mark, without) < 0;
    }

    int sees(int place, int without) {
        int set = 0;
        for (int m = 0; m < marks.size(); m++) {
            set += sees(place, m, without) ? 1 << m : 0;
        }
        return set;
    }

    int worthOf(int set) {
        int sum = 0;
        for (int m = 0; m < marks.size(); m++) {
            sum += (set >> m) % 2 * marks.get(m)[2];
        }
        return sum;
    }

    int worth(int place, int without) {
        return worthOf(sees(place, without));
    }

    // ---- III ----

    int[] start() {
        return lookers.stream().mapToInt(l -> l[0]).toArray();
    }

    int[] exchanged(int[] row, int year) {
        int[] now = row.clone();
        for (int[] a : acts) {
            if (a[2] == year) {
                int spot = now[a[0]];
                now[a[0]] = now[a[1]];
                now[a[1]] = spot;
            }
        }
        return now;
    }

    int[] moved(int[] row, int byLaw, int without) {
        int[] next = row.clone();
        int n = places.size();
        if (byLaw == 0) {
            Arrays.setAll(next, l -> (row[l] + 1) % n);
        } else if (byLaw == 1) {
            Arrays.setAll(next, l -> (row[l] + n - 1) % n);
        } else if (byLaw == 2 && row.length > 1) {
            List<Integer> order = new ArrayList<>();
            for (int l = 0; l < row.length; l++) {
                order.add(l);
            }
            order.sort((a, b) -> worth(row[b], without) - worth(row[a], without));
            int most = order.remove(0);
            order.sort((a, b) -> worth(row[a], without) != worth(row[b], without)
                    ? worth(row[a], without) - worth(row[b], without) : a - b);
            int least = order.get(0);
            next[most] = row[least];
            next[least] = row[most];
        } else if (byLaw == 3) {
            List<Integer> theirs = new ArrayList<>();
            for (int l = 0; l < row.length; l++) {
                if (!sees(row[l], lookers.get(l)[1], without)) {
                    theirs.add(row[l]);
                }
            }
            theirs.sort(null);
            for (int l = 0; l < row.length; l++) {
                int i = theirs.indexOf(row[l]);
                next[l] = i < 0 ? row[l] : theirs.get((i + 1) % theirs.size());
            }
        }
        return next;
    }

    /** Rows of all years, behind exchanges; moved in the years that are bits of a set. */
    int[][] course(int[] start, int byLaw, int set, int without) {
        int[][] rows = new int[years + 1][];
        rows[0] = exchanged(start, 0);
        for (int y = 1; y <= years; y++) {
            int[] next = (set >> y - 1 & 1) == 1 ? moved(rows[y - 1], byLaw, without) : rows[y - 1];
            rows[y] = exchanged(next, y);
        }
        return rows;
    }

    int[][] course() {
        return course(start(), law, -1, -1);
    }

    int joy(int[][] rows, int looker, int year, int without) {
        int before = year == 0 ? 0 : sees(rows[year - 1][looker], without);
        return worthOf(sees(rows[year][looker], without) & ~before);
    }

    int joyOfAll(int[][] rows, int without) {
        int sum = 0;
        for (int y = 0; y <= years; y++) {
            for (int l = 0; l < lookers.size(); l++) {
                sum += joy(rows, l, y, without);
            }
        }
        return sum;
    }

    boolean isGlad(int looker, int place) {
        return sees(place, lookers.get(looker)[1], -1);
    }

    // ---- IV ----

    /** All rows of so many unlike numbers below a limit, the least first. */
    static List<int[]> rows(int limit, int length) {
        List<int[]> all = new ArrayList<>();
        grow(new int[0], limit, length, all);
        return all;
    }

    private static void grow(int[] row, int limit, int length, List<int[]> all) {
        if (row.length == length) {
            all.add(row);
            return;
        }
        for (int v = 0; v < limit; v++) {
            int next = v;
            if (Arrays.stream(row).noneMatch(r -> r == next)) {
                int[] longer = Arrays.copyOf(row, row.length + 1);
                longer[row.length] = v;
                grow(longer, limit, length, all);
            }
        }
    }

    int gladBy(int[] row) {
        int n = 0;
        for (int l = 0; l < row.length; l++) {
            n += isGlad(l, row[l]) ? 1 : 0;
        }
        return n;
    }

    /** The rows by which most are glad. */
    List<int[]> rosters() {
        List<int[]> all = rows(places.size(), lookers.size());
        int most = all.stream().mapToInt(this::gladBy).max().getAsInt();
        all.removeIf(r -> gladBy(r) < most);
        return all;
    }

    int fair() {
        return rows(places.size(), lookers.size()).stream()
                .mapToInt(r -> Arrays.stream(r).map(p -> worth(p, -1)).min().orElse(-1)).max().orElse(-1);
    }

    // ---- V ----

    /** All rows that can be come to, with the least of the shortest rows of lookers shifted. */
    Map<String, List<Integer>> shifts() {
        Map<String, List<Integer>> found = new HashMap<>();
        ArrayDeque<int[]> queue = new ArrayDeque<>();
        found.put(Arrays.toString(start()), new ArrayList<>());
        queue.add(start());
        while (!queue.isEmpty()) {
            int[] row = queue.remove();
            List<Integer> path = found.get(Arrays.toString(row));
            for (int l = 0; l < row.length; l++) {
                for (int[] w : ways) {
                    shift(row, l, w[0], w[1], path, found, queue);
                    shift(row, l, w[1], w[0], path, found, queue);
                }
            }
        }
        return found;
    }

    private static void shift(int[] row, int l, int from, int to, List<Integer> path,
            Map<String, List<Integer>> found, ArrayDeque<int[]> queue) {
        if (row[l] != from || Arrays.stream(row).anyMatch(p -> p == to)) {
            return;
        }
        int[] next = row.clone();
        next[l] = to;
        List<Integer> longer = new ArrayList<>(path);
        longer.add(l);
        List<Integer> known = found.get(Arrays.toString(next));
        if (known == null || longer.size() == known.size() && isLess(longer, known)) {
            found.put(Arrays.toString(next), longer);
            queue.add(next);
        }
    }

    private static boolean isLess(List<Integer> a, List<Integer> b) {
        for (int i = 0; i < a.size(); i++) {
            if (!a.get(i).equals(b.get(i))) {
                return a.get(i) < b.get(i);
            }
        }
        return false;
    }

    // ---- VI, VII ----

    private int taken(int looker, List<Integer> free) {
        for (int p : free) {
            if (isGlad(looker, p)) {
                return p;
            }
        }
        int best = free.get(0);
        for (int p : free) {
            best = worth(p, -1) > worth(best, -1) ? p : best;
        }
        return best;
    }

    long[] lot(int looker, int place) {
        List<int[]> orders = rows(lookers.size(), lookers.size());
        long hits = 0;
        for (int[] order : orders) {
            List<Integer> free = new ArrayList<>();
            for (int p = 0; p < places.size(); p++) {
                free.add(p);
            }
            for (int l : order) {
                Integer p = taken(l, free);
                free.remove(p);
                hits += l == looker && p == place ? 1 : 0;
            }
        }
        return lowest(hits, orders.size());
    }

    int setWorth(int set) {
        int seen = 0;
        for (int p = 0; p < places.size(); p++) {
            seen |= (set >> p & 1) == 1 ? sees(p, -1) : 0;
        }
        return worthOf(seen);
    }

    long[] share(int place) {
        List<int[]> orders = rows(places.size(), places.size());
        int[] worths = new int[1 << places.size()];
        Arrays.setAll(worths, this::setWorth);
        long sum = 0;
        for (int[] order : orders) {
            int set = 0;
            for (int p : order) {
                sum += p == place ? worths[set | 1 << p] - worths[set] : 0;
                set |= 1 << p;
            }
        }
        return lowest(sum, orders.size());
    }

    int watches() {
        int wanted = 0;
        for (int p = 0; p < places.size(); p++) {
            wanted |= sees(p, -1);
        }
        for (int n = 0; n <= places.size(); n++) {
            for (int set = 0; set < 1 << places.size(); set++) {
                int seen = 0;
                for (int p = 0; p < places.size(); p++) {
                    seen |= (set >> p & 1) == 1 ? sees(p, -1) : 0;
                }
                if (Integer.bitCount(set) == n && seen == wanted) {
                    return set;
                }
            }
        }
        return -1;
    }

    // ---- VIII ----

    boolean agrees(int[][] rows, int looker, long[] book) {
        for (int i = 0; i < book.length; i += 3) {
            boolean saw = sees(rows[(int) book[i]][looker], (int) book[i + 1], -1);
            if (saw != (book[i + 2] == 1)) {
                return false;
            }
        }
        return true;
    }

    int[][] courseFrom(int looker, int place) {
        int[] start = start();
        for (int l = 0; l < start.length; l++) {
            if (start[l] == place) {
                start[l] = lookers.get(looker)[0];
            }
        }
        start[looker] = place;
        return course(start, law, -1, -1);
    }

    List<Integer> firsts(int looker, long[] book) {
        List<Integer> found = new ArrayList<>();
        for (int p = 0; p < places.size(); p++) {
            if (agrees(courseFrom(looker, p), looker, book)) {
                found.add(p);
            }
        }
        return found;
    }

    /** The year to ask for, and how many that leaves. */
    int[] ask(int looker, long[] book) {
        List<Integer> firsts = firsts(looker, book);
        int[] best = {-1, firsts.size()};
        for (int y = years; y >= 0; y--) {
            int worst = 0;
            for (int p = 0; p < places.size(); p++) {
                int left = 0;
                for (int f : firsts) {
                    left += courseFrom(looker, f)[y][looker] == p ? 1 : 0;
                }
                worst = Math.max(worst, left);
            }
            if (worst < best[1] || worst == best[1] && best[0] >= 0) {
                best = new int[] {y, worst};
            }
        }
        return best;
    }

    // ---- IX, X ----

    int gets(int looker, int other, int turns, int otherTurns) {
        int own = sees((lookers.get(looker)[0] + turns) % places.size(), -1);
        int others = sees((lookers.get(other)[0] + otherTurns) % places.size(), -1);
        return worthOf(own) - worthOf(own & others) + worthOf(own & others) / 2;
    }

    int rests(int a, int b) {
        int set = 0;
        for (int i = 0; i < 4; i++) {
            int s = i % 2;
            int t = i / 2;
            if (gets(a, b, s, t) >= gets(a, b, 1 - s, t) && gets(b, a, t, s) >= gets(b, a, 1 - t, s)) {
                set += 1 << i;
            }
        }
        return set;
    }

    /** Above what is below: 10 to the year. */
    long weight(int looker, int place, int year) {
        long sum = 0;
        for (int set = 0; set < 1 << year; set++) {
            if (course(start(), law, set, -1)[year][looker] == place) {
                long w = 1;
                for (int y = 0; y < year; y++) {
                    w *= (set >> y & 1) == 1 ? odds : 10 - odds;
                }
                sum += w;
            }
        }
        return sum;
    }

    static long[] lowest(long above, long below) {
        long g = BigInteger.valueOf(above).gcd(BigInteger.valueOf(below)).longValue();
        return new long[] {above / g, below / g};
    }

    int drawn(long seed) {
        long x = seed;
        int set = 0;
        for (int y = 0; y < years; y++) {
            x = Math.floorMod(1103515245L * x + 12345, 2147483648L);
            set |= (x >> 16) % 10 < odds ? 1 << y : 0;
        }
        return set;
    }
}

import java.util.ArrayList;
import java.util.Arrays;
import java.util.List;
import java.util.Map;
import java.util.Random;

/** Compares the class with the oracle on many roofs, drawn from fixed seeds. */
final class OracleTest {
    private final Random random;
    private final Oracle o = new Oracle();
    private HassockRoof x = new HassockRoof();

    private OracleTest(long seed) {
        random = new Random(seed);
    }

    public static void main(String[] args) {
        int roofs = args.length > 0 ? Integer.parseInt(args[0]) : 150;
        for (int seed = 0; seed < roofs; seed++) {
            new OracleTest(seed).compare();
        }
        Check.finish();
    }

    private int below(int n) {
        return random.nextInt(n);
    }

    /** Points on a small grid, so that flues often stand on lines. */
    private List<int[]> points(int n, List<int[]> taken, int grid) {
        List<int[]> found = new ArrayList<>();
        while (found.size() < n) {
            int[] p = {below(grid), below(grid), below(4) == 0 ? 0 : below(100)};
            if (taken.stream().noneMatch(t -> t[0] == p[0] && t[1] == p[1])) {
                found.add(p);
                taken.add(p);
            }
        }
        return found;
    }

    private void draw() {
        o.years = 1 + below(12);
        o.law = below(4);
        o.odds = below(11);
        int grid = below(5) == 0 ? 31 : 5 + below(4);
        List<int[]> taken = new ArrayList<>();
        o.places.addAll(points(below(4) == 0 ? 6 : below(7), taken, grid));
        o.marks.addAll(points(below(8), taken, grid));
        o.flues.addAll(points(below(7), taken, grid));
        for (int i = below(11); i > 0 && o.places.size() > 1; i--) {
            int a = below(o.places.size());
            o.ways.add(new int[] {a, (a + 1 + below(o.places.size() - 1)) % o.places.size()});
        }
        if (o.marks.isEmpty()) {
            return;
        }
        List<Integer> free = new ArrayList<>();
        for (int p = 0; p < o.places.size(); p++) {
            free.add(p);
        }
        for (int i = below(o.places.size() + 1); i > 0; i--) {
            o.lookers.add(new int[] {free.remove(below(free.size())), below(o.marks.size())});
        }
    }

    private void due(String call, long got, long want) {
        Check.due(call + " of " + o.text() + " acts " + o.acts.size(), got, want);
    }

    private void compare() {
        draw();
        ask(this::sight);
        ask(this::years);
        ask(this::rowsAndShifts);
        for (int i = 0; i < 4; i++) {
            ask(this::act);
            ask(this::sight);
            ask(this::years);
            ask(this::books);
            ask(this::gamesAndChance);
            ask(this::lawsAndFlues);
            ask(this::rowsAndShifts);
        }
    }

    /** On an object of its own, as nothing is promised behind the 512th call. */
    private void ask(Runnable part) {
        x = new HassockRoof();
        due("roof()", Check.tell(x, o.text()), 1 + o.places.size() + o.marks.size() + o.flues.size()
                + o.ways.size() + o.lookers.size());
        for (int[] act : o.acts) {
            int answer = act[2] < 0 ? x.clear(act[0]) : x.swap(act[0], act[1], act[2]);
            Check.holds("done again", answer >= 0);
        }
        part.run();
    }

    private void act() {
        int lookers = o.lookers.size();
        if (below(5) == 0 && !o.acts.isEmpty()) {
            o.acts.remove(o.acts.size() - 1);
            due("undo()", x.undo(), o.acts.size());
        } else if (lookers > 1 && below(3) > 0) {
            int a = below(lookers);
            int b = (a + 1 + below(lookers - 1)) % lookers;
            int[] act = {a, b, below(o.years)};
            o.acts.add(act);
            due("swap", x.swap(a, b, act[2]), o.course()[o.years][a]);
        } else if (!o.flues.isEmpty()) {
            int f = below(o.flues.size());
            int stood = o.stands(f) ? 1 : 0;
            o.acts.add(new int[] {f, -1, -1});
            due("clear", x.clear(f), stood);
        }
    }

    private void sight() {
        int best = -1;
        int blind = 0;
        int seen = 0;
        for (int p = 0; p < o.places.size(); p++) {
            due("sees", x.sees(p), o.sees(p, -1));
            due("worth", x.worth(p), o.worth(p, -1));
            for (int m = 0; m < o.marks.size(); m++) {
                due("hides", x.hides(p, m), o.hider(p, m, -1));
                due("from", x.from(m) >> p & 1, o.sees(p, m, -1) ? 1 : 0);
            }
            best = best < 0 || o.worth(p, -1) > o.worth(best, -1) ? p : best;
            blind |= o.sees(p, -1) == 0 ? 1 << p : 0;
            seen |= o.sees(p, -1);
        }
        due("best()", x.best(), best);
        due("blind()", x.blind(), blind);
        due("lost()", x.lost(), (1 << o.marks.size()) - 1 - seen);
        for (int set = 0; set < 1 << o.places.size(); set++) {
            due("all", x.all(set), o.setWorth(set));
        }
        due("watches()", x.watches(), o.watches());
        due("watch()", x.watch(), Integer.bitCount(o.watches()));
    }

    private void years() {
        int[][] rows = o.course();
        int feast = 0;
        int[] joys = new int[o.years + 1];
        int[] lives = new int[o.lookers.size()];
        int round = -1;
        for (int y = 0; y <= o.years; y++) {
            int glad = 0;
            for (int l = 0; l < lives.length; l++) {
                due("at", x.at(l, y), rows[y][l]);
                due("who", x.who(rows[y][l], y), l);
                due("joy", x.joy(l, y), o.joy(rows, l, y, -1));
                joys[y] += o.joy(rows, l, y, -1);
                lives[l] += o.joy(rows, l, y, -1);
                glad |= o.isGlad(l, rows[y][l]) ? 1 << l : 0;
            }
            due("glad", x.glad(y), glad);
            feast = joys[y] > joys[feast] ? y : feast;
            round = y > 0 && round < 0 && Arrays.equals(rows[0], rows[y]) ? y : round;
            envyAndTrade(rows[y], y);
        }
        due("feast()", x.feast(), feast);
        due("round()", x.round(), round);
        int sad = -1;
        for (int l = 0; l < lives.length; l++) {
            due("life", x.life(l), lives[l]);
            sad = sad < 0 || lives[l] < lives[sad] ? l : sad;
            eachYear(rows, l);
        }
        due("sad()", x.sad(), sad);
    }

    private void eachYear(int[][] rows, int l) {
        int drill = -1;
        int often = 0;
        int walks = 0;
        int seen = 0;
        for (int y = 0; y <= o.years; y++) {
            boolean glad = o.isGlad(l, rows[y][l]);
            drill = glad && drill < 0 ? y : drill;
            often += glad ? 1 : 0;
            walks |= 1 << rows[y][l];
            seen |= o.sees(rows[y][l], -1);
            due("seen", x.seen(l, y), seen);
        }
        due("drill", x.drill(l), drill);
        due("often", x.often(l), often);
        due("walks", x.walks(l), walks);
    }

    private void envyAndTrade(int[] row, int year) {
        int trade = -1;
        for (int a = row.length - 1; a >= 0; a--) {
            int envied = 0;
            for (int b = row.length - 1; b >= 0; b--) {
                envied |= o.worth(row[b], -1) > o.worth(row[a], -1) ? 1 << b : 0;
                boolean both = !o.isGlad(a, row[a]) && !o.isGlad(b, row[b]) && o.isGlad(a, row[b])
                        && o.isGlad(b, row[a]);
                trade = a < b && both ? 10 * a + b : trade;
            }
            due("envies", x.envies(a, year), envied);
        }
        due("trade", x.trade(year), trade);
    }

    private void rowsAndShifts() {
        List<int[]> rosters = o.rosters();
        due("roster()", x.roster(), o.gladBy(rosters.get(0)));
        due("rosters()", x.rosters(), rosters.size());
        due("fair()", x.fair(), o.fair());
        for (int l = 0; l < o.lookers.size(); l++) {
            due("put", x.put(l), rosters.get(0)[l]);
            int p = below(o.places.size());
            long[] lot = o.lot(l, p);
            due("lot above", x.lot(l, p, 0), lot[0]);
            due("lot below", x.lot(l, p, 1), lot[1]);
        }
        for (int p = 0; p < o.places.size(); p++) {
            long[] share = o.share(p);
            due("share above", x.share(p, 0), share[0]);
            due("share below", x.share(p, 1), share[1]);
        }
        Map<String, List<Integer>> shifts = o.shifts();
        due("reach()", x.reach(), shifts.size());
        due("far()", x.far(), shifts.values().stream().mapToInt(List::size).max().getAsInt());
        List<int[]> rows = Oracle.rows(o.places.size(), o.lookers.size());
        for (int i = 0; i < 6; i++) {
            int[] goal = rows.get(below(rows.size()));
            List<Integer> path = shifts.get(Arrays.toString(goal));
            Check.fill(x, i % 4, i % 3, Arrays.stream(goal).asLongStream().toArray());
            due("shifts", x.shifts(i % 4), path == null ? -1 : path.size());
            due("first", x.first(i % 4), path == null || path.isEmpty() ? -1 : path.get(0));
        }
    }

    private void books() {
        for (int l = 0; l < o.lookers.size(); l++) {
            long[] book = new long[3 * below(4)];
            int[][] rows = o.courseFrom(l, below(o.places.size()));
            for (int i = 0; i < book.length; i += 3) {
                book[i] = below(o.years + 1);
                book[i + 1] = below(o.marks.size());
                book[i + 2] = o.sees(rows[(int) book[i]][l], (int) book[i + 1], -1) ? 1 : 0;
            }
            Check.fill(x, 3, below(4), book);
            due("firsts", x.firsts(3, l), o.firsts(l, book).stream().mapToInt(p -> 1 << p).sum());
            due("ask", x.ask(3, l), o.ask(l, book)[0]);
            due("leaves", x.leaves(3, l), o.ask(l, book)[1]);
            int laws = 0;
            for (int w = 0; w < 4; w++) {
                laws |= o.agrees(o.course(o.start(), w, -1, -1), l, book) ? 1 << w : 0;
            }
            due("laws", x.laws(3, l), laws);
        }
    }

    private void gamesAndChance() {
        for (int a = 0; a < o.lookers.size(); a++) {
            for (int b = 0; b < o.lookers.size(); b++) {
                if (a != b) {
                    due("rests", x.rests(a, b), o.rests(a, b));
                    due("gets", x.gets(a, b, a % 2, b % 2), o.gets(a, b, a % 2, b % 2));
                }
            }
            int year = 1 + below(Math.min(8, o.years));
            long below = 1;
            for (int y = 0; y < year; y++) {
                below *= 10;
            }
            long sum = 0;
            for (int p = 0; p < o.places.size(); p++) {
                long[] chance = Oracle.lowest(o.weight(a, p, year), below);
                due("chance above", x.chance(a, p, year, 0), chance[0]);
                due("chance below", x.chance(a, p, year, 1), chance[1]);
                sum += o.weight(a, p, year) * o.worth(p, -1);
            }
            due("mean above", x.mean(a, year, 0), Oracle.lowest(sum, below)[0]);
            due("mean below", x.mean(a, year, 1), Oracle.lowest(sum, below)[1]);
            luck(a);
        }
    }

    private void luck(int looker) {
        int seed = below(2000000001);
        due("drawn 0", x.drawn(seed, 0), o.drawn(seed));
        due("drawn 1", x.drawn(seed, 1), o.joyOfAll(o.course(o.start(), o.law, o.drawn(seed), -1), -1));
        int n = 1 + below(20);
        int lucky = 0;
        for (int i = 0; i < n; i++) {
            int[][] rows = o.course(o.start(), o.law, o.drawn(seed + i), -1);
            lucky += Arrays.stream(rows).anyMatch(r -> o.isGlad(looker, r[looker])) ? 1 : 0;
        }
        due("luck", x.luck(seed, n, looker), lucky);
    }

    private void lawsAndFlues() {
        int law = 0;
        int[] joy = new int[4];
        for (int w = 0; w < 4; w++) {
            joy[w] = o.joyOfAll(o.course(o.start(), w, -1, -1), -1);
            due("by", x.by(w), joy[w]);
            law = joy[w] > joy[law] ? w : law;
        }
        due("law()", x.law(), law);
        int fell = -1;
        int most = joy[o.law];
        for (int f = 0; f < o.flues.size(); f++) {
            int without = o.joyOfAll(o.course(o.start(), o.law, -1, f), f);
            if (o.stands(f) && without > most) {
                fell = f;
                most = without;
            }
        }
        due("fell()", x.fell(), fell);
    }
}

import java.util.List;
import java.util.function.Supplier;

/** Promise 1, and "-2: there is no ROOF" of every other: on a new object, and when a ROOF is gone. */
final class NoRoofTest {
    private static final String[] REFUSED = {
        "place(0, 0)", "place(0, 1)", "mark(0, 0)", "mark(0, 2)", "flue(0, 0)", "flue(0, 2)", "looker(0, 0)",
        "looker(0, 1)", "ways(0)", "sees(0)", "from(0)", "hides(0, 0)", "worth(0)", "blind()", "lost()", "best()",
        "at(0, 0)", "who(0, 0)", "seen(0, 0)", "joy(0, 0)", "life(0)", "sad()", "drill(0)", "glad(0)", "often(0)",
        "round()", "walks(0)", "feast()", "envies(0, 0)", "trade(0)", "roster()", "put(0)", "rosters()", "fair()",
        "shifts(0)", "shifts(1)", "shifts(2)", "first(0)", "first(1)", "first(2)", "reach()", "far()", "lot(0, 0, 0)",
        "share(0, 0)", "all(0)", "watch()", "watches()", "firsts(0, 0)", "firsts(1, 0)", "firsts(2, 0)", "ask(0, 0)",
        "ask(1, 0)", "ask(2, 0)", "leaves(0, 0)", "leaves(1, 0)", "leaves(2, 0)", "laws(0, 0)", "laws(1, 0)",
        "laws(2, 0)", "by(0)", "law()", "fell()", "rests(0, 1)", "chance(0, 0, 1, 0)", "chance(0, 0, 0, 1)",
        "mean(0, 1, 0)", "mean(0, 0, 1)", "swap(0, 1, 0)", "clear(0)", "undo()", "anew()", "drawn(0, 0)",
        "drawn(0, 1)", "luck(0, 1, 0)", "rate(0, 0)"};

    public static void main(String[] args) {
        allRefused("a new object", HassockRoof::new);
        allRefused("a roof of nothing", Runs.of("", "roof()"));
        allRefused("a roof gone", Runs.of(Runs.FULL, "clear(0)", "swap(0, 1, 0)", "roof()"));
        allRefused("a roof gone", Runs.of(Check.SMALL, "roof()"));
        allRefused("an image of none", () -> {
            HassockRoof x = Runs.of("", "image(0)").get();
            Check.tell(x, Runs.FULL);
            Runs.run(x, "clear(0) -> 1", "back(0) -> 0");
            return x;
        });
        allRefused("a fault", () -> {
            HassockRoof x = new HassockRoof();
            Check.tell(x, Check.BARE + "place 0 0;mark 1 1 worth 1;looker at 0 hopes 0");
            Runs.run(x, "fault(0) -> 1", "end(0) -> 0");
            return x;
        });
        refusedAsFaulty();
        Check.finish();
    }

    /** SLOT 1 has a row of one number, SLOT 2 of none, SLOT 0 nothing: -2 is asked ahead of -6. */
    private static void allRefused(String what, Supplier<HassockRoof> made) {
        HassockRoof x = made.get();
        Runs.run(x, "row(1, 0, 1) -> 0", "row(2, 0, 0) -> 0");
        for (String call : REFUSED) {
            Check.due(call + " on " + what, Runs.call(x, call), -2);
        }
        Check.due("gets on " + what, Runs.call(x, "gets(0, 1, 0, 0)"), -1000);
        for (int n = 0; n <= 10; n++) {
            Check.due("count(" + n + ") on " + what, x.count(n), 0);
        }
        Check.due("count(11) on " + what, x.count(11), 2);
        Check.due("count(12) on " + what, x.count(12), -1);
        Runs.run(x, "image(0) -> 0", "back(0) -> 0", "back(2) -> -6", "write(1, 0, 1) -> 0", "blind() -> -2");
        // It can be told one then.
        Check.due("a roof on " + what, Check.tell(x, Check.SMALL), 13);
        Runs.run(x, "worth(1) -> 14", "at(0, 3) -> 0", "back(0) -> 0", "worth(1) -> -2");
    }

    /** A number that is wrong besides does not change what is answered. */
    private static void refusedAsFaulty() {
        HassockRoof x = new HassockRoof();
        for (String call : List.of("glad(-1)", "trade(99)", "all(-1)", "by(4)", "drawn(-1, 0)", "shifts(4)", "first(-1)",
                "firsts(4, 0)", "luck(0, 0, 0)", "rate(0, 100)", "swap(0, 0, 0)", "place(-1, 2)")) {
            Check.due(call, Runs.call(x, call), -2);
        }
        Runs.run(x, "gets(0, 0, 2, 2) -> -1000");
    }
}

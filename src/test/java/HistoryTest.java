import java.util.ArrayList;
import java.util.List;
import java.util.Random;

/**
 * Questions and refused calls leave nothing behind: what an object answers is what a new one answers
 * behind those calls alone that change something.
 */
final class HistoryTest {
    private static final String[] QUESTIONS = {
        "fault 2", "place 3 2", "mark 3 3", "flue 3 3", "looker 3 2", "ways 3", "sees 3", "from 3", "hides 3 3",
        "worth 3", "blind", "lost", "best", "at 3 4", "who 3 4", "seen 3 4", "joy 3 4", "life 3", "sad", "drill 3",
        "glad 4", "often 3", "round", "walks 3", "feast", "envies 3 4", "trade 4", "roster", "put 3", "rosters", "fair",
        "shifts 4", "first 4", "reach", "far", "lot 3 3 2", "share 3 2", "all 8", "watch", "watches", "firsts 4 3",
        "ask 4 3", "leaves 4 3", "laws 4 3", "by 4", "law", "fell", "rests 3 3", "gets 3 3 2 2", "chance 3 3 4 2",
        "mean 3 4 2", "drawn 9 2", "luck 9 5 3", "count 12"};
    private static final String[] ACTS = {
        "end 30", "roof", "swap 3 3 4", "swap 3 3 4", "swap 3 3 4", "clear 3", "clear 3", "undo", "anew", "rate 3 101",
        "image 4", "back 4", "row 5 5 5", "write 5 4 4", "write 4 4 4", "write 4 4 4", "paste 5 3 5 3 4"};
    private static final String[] ROOFS = {Check.SMALL, Check.SMALL.replace("law 0", "law 3") + "looker at 2 hopes 2;",
        Cells.of(3, 2, 4, "at 3 hopes 1", "at 0 hopes 0"), Runs.FULL, Check.BARE, BoundsTest.ONE, " ", "roof years 0"};

    public static void main(String[] args) {
        for (int seed = 0; seed < 300; seed++) {
            history(new Random(seed));
        }
        Check.finish();
    }

    private static void history(Random r) {
        HassockRoof x = new HassockRoof();
        List<String> done = new ArrayList<>();
        String first = ROOFS[r.nextInt(4)];
        tell(x, first, done);
        for (int i = 0; i < 90; i++) {
            if (r.nextInt(25) == 0) {
                tell(x, ROOFS[r.nextInt(ROOFS.length)], done);
            }
            boolean isAct = r.nextInt(3) == 0;
            String call = drawn(isAct ? ACTS[r.nextInt(ACTS.length)] : QUESTIONS[r.nextInt(QUESTIONS.length)], r);
            HassockRoof fresh = again(done);
            long got = Runs.call(x, call);
            Check.due(call + " behind " + done, got, Runs.call(fresh, call));
            boolean isFault = call.startsWith("roof") && got == -4;
            if (isAct && (got >= 0 || isFault)) {
                done.add(call);
            }
        }
        Check.holds("the same at the end: " + done, Runs.seen(x).equals(Runs.seen(again(done))));
    }

    private static HassockRoof again(List<String> done) {
        HassockRoof x = new HassockRoof();
        for (String call : done) {
            if (call.startsWith("\"")) {
                Check.feedText(x, call.substring(1));
            } else {
                Runs.call(x, call);
            }
        }
        return x;
    }

    /** The text stands in the row of what was done behind a mark, as no call does. */
    private static void tell(HassockRoof x, String text, List<String> done) {
        x.end(0);
        done.add("end(0)");
        Check.feedText(x, text);
        done.add("\"" + text);
        x.roof();
        done.add("roof()");
    }

    /** A call with numbers from -1 to below each bound. */
    private static String drawn(String told, Random r) {
        String[] parts = told.split(" ");
        StringBuilder call = new StringBuilder(parts[0]).append("(");
        for (int i = 1; i < parts.length; i++) {
            int n = r.nextInt(12) == 0 ? -1 : r.nextInt(Integer.parseInt(parts[i]));
            call.append(i > 1 ? ", " : "").append(n);
        }
        return call.append(")").toString();
    }
}

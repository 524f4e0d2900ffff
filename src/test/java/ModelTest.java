import java.nio.file.Files;
import java.nio.file.Path;
import java.util.HashSet;
import java.util.Set;

/**
 * Promises 1 to 68 in runs of calls on new objects. The answers are those of a second program (in
 * another language, not kept) that follows the document and tries everything out; who wrote it knew
 * this class, and where the document leaves room it has the readings that NOTES.md tells.
 */
final class ModelTest {
    public static void main(String[] args) throws Exception {
        HassockRoof x = new HassockRoof();
        Set<String> asked = new HashSet<>();
        int run = 0;
        for (String row : Files.readAllLines(Path.of("src/test/resources/model-runs.txt"))) {
            if (row.equals("run")) {
                x = new HassockRoof();
                run++;
            } else if (row.startsWith("\"")) {
                Check.feedText(x, row.substring(1).replace("\\n", "\n"));
            } else {
                int arrow = row.indexOf(" -> ");
                String call = row.substring(0, arrow);
                Check.due("run " + run + ": " + call, Runs.call(x, call), Long.parseLong(row.substring(arrow + 4)));
                asked.add(call.substring(0, call.indexOf('(')));
            }
        }
        Check.due("runs", run, 16);
        // All but feed() and end(), which stand behind the texts.
        Check.due("methods asked", asked.size(), 65);
        Check.finish();
    }
}

import java.util.ArrayList;
import java.util.HashMap;
import java.util.List;
import java.util.Map;
import java.util.Random;

/**
 * Holds the program against the model in runs of calls drawn by lot (with fixed seeds, so that every run of the test
 * is the same), and looks whether all that was committed is on the disk.
 */
public final class ModelTest {
    private static final int RUNS = 500;
    private static final int LOOK_EVERY = 5;

    /** Every call that only looks, so that after a change the whole state can be compared. */
    private static final List<String> LOOKS = looks();

    private static List<String> looks() {
        List<String> looks = new ArrayList<>();
        for (int r = 0; r < 6; r++) {
            looks.add("image " + r);
            for (int k = 0; k < 5; k++) {
                for (int what = 0; what < 3; what++) {
                    looks.add("version " + r + " " + k + " " + what);
                }
            }
        }
        for (int p = 0; p < 7; p++) {
            looks.add("page " + p);
            looks.add("page " + (10 + p));
        }
        for (int what = 0; what < 5; what++) {
            looks.add("count " + what);
        }
        for (int t = 1; t <= 40; t++) {
            looks.add("state " + t);
        }
        return looks;
    }

    private static String lot(Random random, List<Integer> begun, int crashiness) {
        int t = begun.isEmpty() || random.nextInt(60) == 0
                ? random.nextInt(43) - 1
                : begun.get(Math.max(0, begun.size() - 1 - random.nextInt(5)));
        int r = random.nextInt(80) == 0 ? random.nextInt(20) - 7 : random.nextInt(6);
        int way = random.nextInt(100);
        if (way < 16) {
            return "begin";
        } else if (way < 26) {
            return "read " + t + " " + r;
        } else if (way < 58) {
            int value = random.nextInt(60) == 0 ? random.nextInt(3000000) - 1000000 : random.nextInt(1000);
            return "write " + t + " " + r + " " + value;
        } else if (way < 66) {
            return "erase " + t + " " + r;
        } else if (way < 75) {
            return "commit " + t;
        } else if (way < 82) {
            return "rollback " + t;
        } else if (way < 91) {
            return "sweep";
        } else if (way < 94) {
            return "flush";
        } else if (way < 94 + crashiness) {
            int k = random.nextInt(9) == 0 ? random.nextInt(60) - 4 : 1 + random.nextInt(9);
            return random.nextInt(4) == 0 ? "crash" : "fail " + k;
        }
        return "version " + r + " " + (random.nextInt(14) - 2) + " " + (random.nextInt(6) - 1);
    }

    private static boolean sameLooks(RecordVersions store, Model model, List<String> done) {
        for (String look : LOOKS) {
            String got = Script.answer(store, look);
            String want = model.answer(look);
            if (!got.equals(want)) {
                Script.due(look + " is " + want + " and not " + got + " after " + done, false);
                return false;
            }
        }
        return true;
    }

    private static boolean runOnce(int seed) {
        Random random = new Random(seed);
        RecordVersions store = new RecordVersions();
        Model model = new Model();
        List<String> done = new ArrayList<>();
        List<Integer> begun = new ArrayList<>();
        Map<Integer, String> latest = new HashMap<>();
        Map<Integer, Map<Integer, String>> open = new HashMap<>();
        for (int i = 0; i < 220; i++) {
            String call = lot(random, begun, seed % 4);
            String got = Script.answer(store, call);
            String want = model.answer(call);
            done.add(call);
            if (!got.equals(want)) {
                Script.due(call + " is " + want + " and not " + got + " after " + done, false);
                return false;
            }
            if (call.equals("begin") && !got.equals("-9") && !got.equals("IllegalState")) {
                begun.add(Integer.parseInt(got));
            }
            if (i % LOOK_EVERY == 0 && !sameLooks(store, model, done)
                    || !nothingLost(store, call, got, latest, open, done)) {
                return false;
            }
        }
        return true;
    }

    /** What the store is for: after any call, and any crash, the image is what was committed, no more and no less. */
    private static boolean nothingLost(RecordVersions store, String call, String got, Map<Integer, String> latest,
            Map<Integer, Map<Integer, String>> open, List<String> done) {
        String[] w = call.split(" ");
        if ((w[0].equals("write") || w[0].equals("erase")) && got.equals("1")) {
            open.computeIfAbsent(Integer.parseInt(w[1]), t -> new HashMap<>())
                    .put(Integer.parseInt(w[2]), w[0].equals("erase") ? "NoSuchElement" : w[3]);
        }
        if (w[0].equals("commit") && !got.equals("-9") && !got.equals("IllegalState")) {
            latest.putAll(open.getOrDefault(Integer.parseInt(w[1]), Map.of()));
        }
        for (int r = 0; r < 6; r++) {
            String want = latest.getOrDefault(r, "NoSuchElement");
            if (!Script.answer(store, "image " + r).equals(want)) {
                Script.due("image " + r + " is " + want + " after " + done, false);
                return false;
            }
        }
        return true;
    }

    public static void main(String[] args) {
        for (int seed = 1; seed <= RUNS; seed++) {
            Script.due("run " + seed, runOnce(seed));
        }
        Script.end();
    }
}

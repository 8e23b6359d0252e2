import java.util.ArrayList;
import java.util.HashMap;
import java.util.List;
import java.util.Map;
import java.util.Random;

/**
 * Holds the program against the model in runs of calls drawn by lot (with fixed seeds, so that every run of the test
 * is the same), and looks whether all that was committed is on the disk.
 */
public final class ModelTest {
    private static final int RUNS = 500;
    private static final int CALLS = 220;
    private static final int LOOK_EVERY = 5;

    private static String lot(Random random, List<Integer> begun, int crashiness) {
        int t = begun.isEmpty() || random.nextInt(60) == 0
                ? random.nextInt(43) - 1
                : begun.get(Math.max(0, begun.size() - 1 - random.nextInt(5)));
        int r = random.nextInt(80) == 0 ? random.nextInt(20) - 7 : random.nextInt(6);
        int way = random.nextInt(100);
        if (way < 16) {
            return "begin";
        } else if (way < 26) {
            return "read " + t + " " + r;
        } else if (way < 58) {
            int value = random.nextInt(60) == 0 ? random.nextInt(3000000) - 1000000 : random.nextInt(1000);
            return "write " + t + " " + r + " " + value;
        } else if (way < 66) {
            return "erase " + t + " " + r;
        } else if (way < 75) {
            return "commit " + t;
        } else if (way < 82) {
            return "rollback " + t;
        } else if (way < 91) {
            return "sweep";
        } else if (way < 94) {
            return "flush";
        } else if (way < 94 + crashiness) {
            int k = random.nextInt(9) == 0 ? random.nextInt(60) - 4 : 1 + random.nextInt(9);
            return random.nextInt(4) == 0 ? "crash" : "fail " + k;
        }
        return "version " + r + " " + (random.nextInt(14) - 2) + " " + (random.nextInt(6) - 1);
    }

    /** A run, with all that is known of it beside the program's own answers. */
    private static final class Run {
        final RecordVersions store = new RecordVersions();
        final Model model = new Model();
        final List<String> done = new ArrayList<>();
        final List<Integer> begun = new ArrayList<>();
        final Map<Integer, String> committed = new HashMap<>();
        final Map<Integer, Map<Integer, String>> open = new HashMap<>();

        boolean call(String call) {
            String got = Script.answer(store, call);
            done.add(call);
            if (!same(call, got, model.answer(call))) {
                return false;
            }
            if (!got.equals("-9") && !got.startsWith("Illegal")) {
                keep(call.split(" "), got);
            }
            return true;
        }

        private void keep(String[] w, String got) {
            if (w[0].equals("begin")) {
                begun.add(Integer.parseInt(got));
                open.put(Integer.parseInt(got), new HashMap<>());
            } else if ((w[0].equals("write") || w[0].equals("erase")) && got.equals("1")) {
                open.get(Integer.parseInt(w[1]))
                        .put(Integer.parseInt(w[2]), w[0].equals("erase") ? "NoSuchElement" : w[3]);
            } else if (w[0].equals("commit")) {
                committed.putAll(open.get(Integer.parseInt(w[1])));
            }
        }

        private boolean same(String call, String got, String want) {
            if (!got.equals(want)) {
                Script.due(call + " is " + want + " and not " + got + " after " + done, false);
            }
            return got.equals(want);
        }

        /** The run is done again on another object, so that no object is asked for more calls than it is good for. */
        private RecordVersions again() {
            RecordVersions other = new RecordVersions();
            for (String call : done) {
                Script.answer(other, call);
            }
            return other;
        }

        boolean looksTheSame() {
            RecordVersions other = again();
            for (String look : Script.LOOKS) {
                if (!same(look, Script.answer(other, look), model.answer(look))) {
                    return false;
                }
            }
            return nothingIsLost(other);
        }

        /** What the store is for: after any call, and any crash, the image is what was committed, no more and no less. */
        private boolean nothingIsLost(RecordVersions other) {
            for (int r = 0; r < 6; r++) {
                String image = "image " + r;
                if (!same(image, Script.answer(other, image), committed.getOrDefault(r, "NoSuchElement"))) {
                    return false;
                }
            }
            return true;
        }
    }

    private static boolean runOnce(int seed) {
        Random random = new Random(seed);
        Run run = new Run();
        for (int i = 0; i < CALLS; i++) {
            boolean good = run.call(lot(random, run.begun, seed % 4));
            if (!good || i % LOOK_EVERY == 0 && !run.looksTheSame()) {
                return false;
            }
        }
        return true;
    }

    public static void main(String[] args) {
        for (int seed = 1; seed <= RUNS; seed++) {
            Script.due("run " + seed, runOnce(seed));
        }
        Script.end();
    }
}

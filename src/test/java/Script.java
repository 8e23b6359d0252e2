import java.util.ArrayList;
import java.util.Arrays;
import java.util.List;
import java.util.NoSuchElementException;

/**
 * Runs of calls on new objects, written as rows such as "write 1 0 5 = 1" or "read 2 0 = NoSuchElement": a call,
 * its arguments, and its answer or the name of its exception without "Exception". "begin = 1; flush = 0" are two
 * rows. What is not as due is printed.
 */
final class Script {
    /** What an object answers after more calls than this is free, so that no test may ask for it. */
    static final int MOST_CALLS = 512;

    /** Every call that only looks, so that two objects can be compared. */
    static final List<String> LOOKS = looks();

    private static int wrong = 0;
    private static int rows = 0;

    private Script() {
    }

    /** Makes a new object, runs the rows on it, and gives it back for more. */
    static RecordVersions run(String name, String... lines) {
        RecordVersions store = new RecordVersions();
        StringBuilder before = new StringBuilder();
        int calls = 0;
        for (String line : lines) {
            for (String row : line.split(";")) {
                String[] sides = row.trim().split(" = ");
                String got = answer(store, sides[0].trim());
                rows++;
                calls++;
                if (!got.equals(sides[1].trim())) {
                    wrong++;
                    System.out.println(name + ": " + row.trim() + ", but it was " + got + ", after:" + before);
                }
                before.append(' ').append(row.trim()).append(';');
            }
        }
        due(name + ": asks for more calls than an object is good for", calls <= MOST_CALLS);
        return store;
    }

    /**
     * A call is refused, and changes nothing: an object that had the call and one that had it not answer the same
     * from then on, not only to what looks at them but also to what goes on from what cannot be looked at.
     */
    static void refused(String name, String[] before, String call, String exception) {
        RecordVersions with = run(name, join(before, call + " = " + exception));
        RecordVersions without = run(name, before);
        List<String> trail = new ArrayList<>(LOOKS);
        trail.add("fail 0");
        for (int transaction = 1; transaction <= 12; transaction++) {
            trail.add("read " + transaction + " 0");
            trail.add("read " + transaction + " 2");
            trail.add("commit " + transaction);
        }
        trail.addAll(List.of("begin", "sweep", "flush", "count 0", "count 2", "crash", "begin", "image 0", "image 2"));
        for (String next : trail) {
            String got = answer(with, next);
            String want = answer(without, next);
            due(name + ": after " + call + " in " + Arrays.toString(before) + ", " + next + " is " + got + " and not " + want,
                    got.equals(want));
        }
    }

    private static List<String> looks() {
        List<String> looks = new ArrayList<>();
        for (int record = 0; record < 6; record++) {
            looks.add("image " + record);
            for (int k = 0; k < 5; k++) {
                for (int what = 0; what < 3; what++) {
                    looks.add("version " + record + " " + k + " " + what);
                }
            }
        }
        for (int page = 0; page < 7; page++) {
            looks.add("page " + page);
            looks.add("page " + (10 + page));
        }
        for (int what = 0; what < 5; what++) {
            looks.add("count " + what);
        }
        for (int transaction = 1; transaction <= 40; transaction++) {
            looks.add("state " + transaction);
        }
        return looks;
    }

    /** Repeats a line for the numbers from .. to, which stand in it as #. */
    static String each(int from, int to, String line) {
        StringBuilder lines = new StringBuilder();
        for (int i = from; i <= to; i++) {
            lines.append(i == from ? "" : ";").append(line.replace("#", Integer.toString(i)));
        }
        return lines.toString();
    }

    static String[] join(String[] lines, String... more) {
        String[] all = Arrays.copyOf(lines, lines.length + more.length);
        System.arraycopy(more, 0, all, lines.length, more.length);
        return all;
    }

    static void due(String what, boolean holds) {
        rows++;
        if (!holds) {
            wrong++;
            System.out.println("does not hold: " + what);
        }
    }

    static void end() {
        System.out.println(wrong == 0 ? rows + " rows as due" : wrong + " of " + rows + " rows not as due");
        if (wrong != 0) {
            System.exit(1);
        }
    }

    /** The answer of a call as a text, or the name of what it threw without "Exception". */
    static String answer(RecordVersions store, String call) {
        String[] words = call.split(" ");
        int[] arguments = new int[3];
        for (int i = 1; i < words.length; i++) {
            arguments[i - 1] = Integer.parseInt(words[i]);
        }
        try {
            return Integer.toString(call(store, words[0], arguments[0], arguments[1], arguments[2]));
        } catch (IllegalArgumentException | IllegalStateException | NoSuchElementException
                | UnsupportedOperationException | IndexOutOfBoundsException e) {
            return e.getClass().getSimpleName().replace("Exception", "");
        }
    }

    private static int call(RecordVersions store, String name, int a, int b, int c) {
        switch (name) {
            case "begin": return store.begin();
            case "read": return store.read(a, b);
            case "write": return store.write(a, b, c);
            case "erase": return store.erase(a, b);
            case "commit": return store.commit(a);
            case "rollback": return store.rollback(a);
            case "sweep": return store.sweep();
            case "flush": return store.flush();
            case "fail": return store.fail(a);
            case "crash": return store.crash();
            case "image": return store.image(a);
            case "state": return store.state(a);
            case "version": return store.version(a, b, c);
            case "page": return store.page(a);
            case "count": return store.count(a);
            default: throw new Error("no such call: " + name);
        }
    }
}

import java.util.NoSuchElementException;

/**
 * Runs of calls on new objects, written as rows such as "write 1 0 5 = 1" or "read 2 0 = NoSuchElement": a call,
 * its arguments, and its answer or the name of its exception without "Exception". "begin = 1; flush = 0" are two
 * rows. What is not as due is printed.
 */
final class Script {
    private static int wrong = 0;
    private static int rows = 0;

    private Script() {
    }

    static void run(String name, String... lines) {
        RecordVersions store = new RecordVersions();
        StringBuilder before = new StringBuilder();
        for (String line : lines) {
            for (String row : line.split(";")) {
                String[] sides = row.trim().split(" = ");
                String got = answer(store, sides[0].trim());
                rows++;
                if (!got.equals(sides[1].trim())) {
                    wrong++;
                    System.out.println(name + ": " + row.trim() + ", but it was " + got + ", after:" + before);
                }
                before.append(' ').append(row.trim()).append(';');
            }
        }
    }

    static void due(String what, boolean holds) {
        rows++;
        if (!holds) {
            wrong++;
            System.out.println("does not hold: " + what);
        }
    }

    static void end() {
        System.out.println(wrong == 0 ? rows + " rows as due" : wrong + " of " + rows + " rows not as due");
        if (wrong != 0) {
            System.exit(1);
        }
    }

    /** The answer of a call as a text, or the name of what it threw without "Exception". */
    static String answer(RecordVersions store, String call) {
        String[] words = call.split(" ");
        int[] arguments = new int[3];
        for (int i = 1; i < words.length; i++) {
            arguments[i - 1] = Integer.parseInt(words[i]);
        }
        try {
            return Integer.toString(call(store, words[0], arguments[0], arguments[1], arguments[2]));
        } catch (IllegalArgumentException | IllegalStateException | NoSuchElementException
                | UnsupportedOperationException | IndexOutOfBoundsException e) {
            return e.getClass().getSimpleName().replace("Exception", "");
        }
    }

    private static int call(RecordVersions store, String name, int a, int b, int c) {
        switch (name) {
            case "begin": return store.begin();
            case "read": return store.read(a, b);
            case "write": return store.write(a, b, c);
            case "erase": return store.erase(a, b);
            case "commit": return store.commit(a);
            case "rollback": return store.rollback(a);
            case "sweep": return store.sweep();
            case "flush": return store.flush();
            case "fail": return store.fail(a);
            case "crash": return store.crash();
            case "image": return store.image(a);
            case "state": return store.state(a);
            case "version": return store.version(a, b, c);
            case "page": return store.page(a);
            case "count": return store.count(a);
            default: throw new Error("no such call: " + name);
        }
    }
}

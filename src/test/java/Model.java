import java.util.ArrayList;
import java.util.HashMap;
import java.util.HashSet;
import java.util.List;
import java.util.Map;
import java.util.Set;
import java.util.TreeMap;
import java.util.TreeSet;

/**
 * The document a second time, put into code without regard to LANGUAGE.md and by other means than the program, so
 * that the two can be held against each other. Calls and answers are texts as in Script.
 */
final class Model {
    /** A version; link is the number of a slot, or null. */
    private record Version(int transaction, Integer value, Integer link) {
    }

    /** Ends a call: what it answers, or what it throws. */
    private static final class Answered extends RuntimeException {
        private static final long serialVersionUID = 1;

        Answered(String text) {
            super(text);
        }
    }

    private record Note(int before, int after) {
    }

    /** Contents by key: "r0" .. "r5" and "s0" .. "s8" are versions, "t1" .. "t40" states. */
    private Map<String, Object> memory = new HashMap<>();
    private final Map<String, Object> disk = new HashMap<>();
    private final Set<Note> notes = new HashSet<>();
    private final Set<Integer> dirty = new TreeSet<>();
    private final Map<Integer, Set<Integer>> snapshots = new TreeMap<>();
    private final Map<Integer, Set<Integer>> changedBy = new TreeMap<>();
    private int writings = 0;
    private int crashes = 0;
    private int failsAt = 0;

    String answer(String call) {
        String[] w = call.split(" ");
        int[] a = new int[3];
        for (int i = 1; i < w.length; i++) {
            a[i - 1] = Integer.parseInt(w[i]);
        }
        try {
            return Integer.toString(switch (w[0]) {
                case "begin" -> begin();
                case "read" -> read(a[0], a[1]);
                case "write" -> write(a[0], a[1], a[2]);
                case "erase" -> erase(a[0], a[1]);
                case "commit" -> commit(a[0]);
                case "rollback" -> rollback(a[0]);
                case "sweep" -> sweep();
                case "flush" -> flush();
                case "fail" -> fail(a[0]);
                case "crash" -> crash();
                case "image" -> image(a[0]);
                case "state" -> state(a[0]);
                case "version" -> version(a[0], a[1], a[2]);
                case "page" -> page(a[0]);
                case "count" -> count(a[0]);
                default -> throw new Error(call);
            });
        } catch (Answered e) {
            return e.getMessage();
        }
    }

    private static void refuseIf(boolean refused, String exception) {
        if (refused) {
            throw new Answered(exception);
        }
    }

    private static int pageOf(String key) {
        int number = Integer.parseInt(key.substring(1));
        return switch (key.charAt(0)) {
            case 'r' -> number / 2;
            case 's' -> 3 + number / 3;
            default -> 6;
        };
    }

    private void set(String key, Object value) {
        if (value == null) {
            memory.remove(key);
        } else {
            memory.put(key, value);
        }
        dirty.add(pageOf(key));
    }

    private Version at(String key) {
        return (Version) memory.get(key);
    }

    private int stateIn(Map<String, Object> world, int transaction) {
        return (Integer) world.getOrDefault("t" + transaction, 0);
    }

    private Set<Integer> inState(Map<String, Object> world, int state) {
        Set<Integer> found = new TreeSet<>();
        for (int t = 1; t <= 40; t++) {
            if (stateIn(world, t) == state) {
                found.add(t);
            }
        }
        return found;
    }

    private void writePage(int page) {
        for (int q = 0; q <= 6; q++) {
            if (notes.contains(new Note(q, page)) && dirty.contains(q)) {
                writePage(q);
            }
        }
        if (failsAt == writings + 1) {
            failsAt = 0;
            fallDown();
            throw new Answered("-9");
        }
        writings++;
        disk.keySet().removeIf(key -> pageOf(key) == page);
        memory.forEach((key, value) -> {
            if (pageOf(key) == page) {
                disk.put(key, value);
            }
        });
        dirty.remove(page);
        notes.removeIf(note -> note.before() == page);
    }

    private boolean leads(int from, int to) {
        for (Note note : notes) {
            if (note.before() == from && (note.after() == to || leads(note.after(), to))) {
                return true;
            }
        }
        return false;
    }

    private void note(int x, int y) {
        if (leads(y, x)) {
            writePage(y);
        }
        if (x != y) {
            notes.add(new Note(x, y));
        }
    }

    private int fallDown() {
        int active = inState(memory, 1).size();
        memory = new HashMap<>(disk);
        notes.clear();
        dirty.clear();
        crashes++;
        for (int t : inState(memory, 1)) {
            set("t" + t, 3);
        }
        return active;
    }

    private List<String> chain(Map<String, Object> world, int record) {
        List<String> keys = new ArrayList<>();
        String key = "r" + record;
        while (key != null && world.get(key) instanceof Version v) {
            keys.add(key);
            key = v.link() == null ? null : "s" + v.link();
        }
        return keys;
    }

    private boolean sees(int t, int owner) {
        return owner == t || snapshots.get(t).contains(owner);
    }

    private void clean(int record) {
        String key = "r" + record;
        while (at(key) != null && stateIn(memory, at(key).transaction()) == 3) {
            Integer slot = at(key).link();
            if (slot == null) {
                set(key, null);
            } else {
                note(pageOf(key), pageOf("s" + slot));
                set(key, at("s" + slot));
                set("s" + slot, null);
            }
        }
    }

    private int change(int t, int record, Integer value) {
        clean(record);
        String key = "r" + record;
        Version old = at(key);
        refuseIf(old != null && !sees(t, old.transaction()), "UnsupportedOperation");
        if (old == null) {
            set(key, new Version(t, value, null));
        } else if (old.transaction() == t) {
            set(key, new Version(t, value, old.link()));
        } else {
            int slot = 0;
            while (slot < 9 && at("s" + slot) != null) {
                slot++;
            }
            refuseIf(slot == 9, "IndexOutOfBounds");
            note(pageOf("s" + slot), pageOf(key));
            set("s" + slot, old);
            set(key, new Version(t, value, slot));
            changedBy.get(t).add(pageOf("s" + slot));
        }
        changedBy.get(t).add(pageOf(key));
        return 1;
    }

    private int begin() {
        refuseIf(inState(memory, 1).size() == 4 || inState(memory, 0).isEmpty(), "IllegalState");
        int t = inState(memory, 0).iterator().next();
        snapshots.put(t, inState(memory, 2));
        changedBy.put(t, new TreeSet<>());
        set("t" + t, 1);
        writePage(6);
        return t;
    }

    private void demand(int t, int record) {
        refuseIf(record < 0 || record > 5, "IllegalArgument");
        refuseIf(stateIn(memory, t) != 1, "IllegalState");
    }

    private int read(int t, int record) {
        demand(t, record);
        for (String key : chain(memory, record)) {
            if (sees(t, at(key).transaction())) {
                refuseIf(at(key).value() == null, "NoSuchElement");
                return at(key).value();
            }
        }
        throw new Answered("NoSuchElement");
    }

    private int write(int t, int record, int value) {
        refuseIf(value < 0 || value > 1000000, "IllegalArgument");
        demand(t, record);
        return change(t, record, value);
    }

    private int erase(int t, int record) {
        read(t, record);
        return change(t, record, null);
    }

    private int commit(int t) {
        refuseIf(stateIn(memory, t) != 1, "IllegalState");
        int before = writings;
        for (int p : changedBy.get(t)) {
            if (dirty.contains(p)) {
                writePage(p);
            }
        }
        set("t" + t, 2);
        writePage(6);
        return writings - before;
    }

    private int rollback(int t) {
        refuseIf(stateIn(memory, t) != 1, "IllegalState");
        set("t" + t, 3);
        return 1;
    }

    private int sweep() {
        int freed = 0;
        for (int record = 0; record < 6; record++) {
            clean(record);
            List<String> chain = chain(memory, record);
            for (int i = 0; i < chain.size(); i++) {
                int owner = at(chain.get(i)).transaction();
                if (stateIn(memory, owner) == 2 && inState(memory, 1).stream().allMatch(t -> sees(t, owner))) {
                    freed += cut(chain.get(0), chain.get(i), chain.subList(i + 1, chain.size()));
                    break;
                }
            }
        }
        return freed;
    }

    private int cut(String record, String first, List<String> behind) {
        Version v = at(first);
        if (v.link() != null) {
            set(first, new Version(v.transaction(), v.value(), null));
        }
        for (String slot : behind) {
            note(pageOf(record), pageOf(slot));
            note(pageOf(first), pageOf(slot));
            set(slot, null);
        }
        if (first.equals(record) && v.value() == null) {
            set(record, null);
        }
        return behind.size();
    }

    private int flush() {
        int before = writings;
        for (int p = 0; p <= 6; p++) {
            if (dirty.contains(p)) {
                writePage(p);
            }
        }
        return writings - before;
    }

    private int fail(int k) {
        refuseIf(k < 0 || k > 50, "IllegalArgument");
        int left = failsAt == 0 ? 0 : failsAt - writings;
        failsAt = k == 0 ? 0 : writings + k;
        return left;
    }

    private int crash() {
        return fallDown();
    }

    private int image(int record) {
        refuseIf(record < 0 || record > 5, "IllegalArgument");
        for (String key : chain(disk, record)) {
            Version v = (Version) disk.get(key);
            if (stateIn(disk, v.transaction()) == 2) {
                refuseIf(v.value() == null, "NoSuchElement");
                return v.value();
            }
        }
        throw new Answered("NoSuchElement");
    }

    private int state(int t) {
        refuseIf(t < 1 || t > 40, "IllegalArgument");
        return stateIn(memory, t);
    }

    private int version(int record, int k, int what) {
        refuseIf(record < 0 || record > 5 || what < 0 || what > 2, "IllegalArgument");
        List<String> chain = chain(memory, record);
        refuseIf(k < 0 || k >= chain.size(), "NoSuchElement");
        Version v = at(chain.get(k));
        return switch (what) {
            case 0 -> v.transaction();
            case 1 -> v.value() == null ? -1 : v.value();
            default -> k == 0 ? -1 : Integer.parseInt(chain.get(k).substring(1));
        };
    }

    private int page(int page) {
        refuseIf(page < 0 || page > 16 || page % 10 > 6, "IllegalArgument");
        if (page >= 10) {
            return dirty.contains(page - 10) ? 1 : 0;
        }
        return notes.stream().filter(note -> note.after() == page).mapToInt(note -> 1 << note.before()).sum();
    }

    private int count(int what) {
        return switch (what) {
            case 0 -> 9 - (int) memory.keySet().stream().filter(key -> key.startsWith("s")).count();
            case 1 -> inState(memory, 1).size();
            case 2 -> writings;
            case 3 -> crashes;
            case 4 -> dirty.size();
            default -> throw new Answered("IllegalArgument");
        };
    }
}

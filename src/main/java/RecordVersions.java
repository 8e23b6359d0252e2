import java.util.NoSuchElementException;

/** A store of records in generations, without a log: see the document for its numbered promises. */
public final class RecordVersions {
    public static final int CRASHED = -9;

    private static final int RECORDS = 6;
    private static final int RECORDS_A_PAGE = 2;
    private static final int SLOTS = 9;
    private static final int SLOTS_A_PAGE = 3;
    private static final int PLACES = RECORDS + SLOTS;

    private static final int PAGES = 7;
    private static final int FIRST_SLOT_PAGE = 3;
    private static final int STATES_PAGE = 6;
    private static final int DIRTY_FROM = 10;

    private static final int TRANSACTIONS = 40;
    private static final int MOST_ACTIVE = 4;
    private static final int HIGHEST_VALUE = 1000000;
    private static final int LATEST_FAILURE = 50;

    private static final int NONE = 0;
    private static final int ACTIVE = 1;
    private static final int COMMITTED = 2;
    private static final int ROLLED = 3;

    private static final int NOBODY = 0;
    private static final int GONE = -1;
    private static final int NOWHERE = -1;

    private final Store store;
    private final Content memory;
    /** Of each transaction: the set of those that were committed when it began. */
    private final long[] committedBefore;
    /** Of each transaction: the set of the pages that it changed. */
    private final int[] changedPages;
    /** Kept for sweep alone, so that no call has to make a row. */
    private final int[] behind;

    public RecordVersions() {
        store = new Store();
        memory = store.memory;
        committedBefore = new long[TRANSACTIONS + 1];
        changedPages = new int[TRANSACTIONS + 1];
        behind = new int[SLOTS];
    }

    public int begin() throws IllegalStateException {
        int transaction = memory.leastUnused();
        if (memory.active() >= MOST_ACTIVE || transaction == NOBODY) {
            throw new IllegalStateException();
        }
        committedBefore[transaction] = memory.committed();
        changedPages[transaction] = 0;
        memory.states[transaction] = ACTIVE;
        store.changed(STATES_PAGE);
        return store.put(STATES_PAGE, 0) ? transaction : CRASHED;
    }

    public int read(int transaction, int record)
            throws IllegalArgumentException, IllegalStateException, NoSuchElementException {
        demandRecord(record);
        demandActive(transaction);
        return demandValue(memory, placeSeen(transaction, record));
    }

    public int write(int transaction, int record, int value)
            throws IllegalArgumentException, IllegalStateException, UnsupportedOperationException,
            IndexOutOfBoundsException {
        demandRecord(record);
        if (value < 0 || value > HIGHEST_VALUE) {
            throw new IllegalArgumentException();
        }
        demandActive(transaction);
        return change(transaction, record, value);
    }

    public int erase(int transaction, int record)
            throws IllegalArgumentException, IllegalStateException, NoSuchElementException,
            UnsupportedOperationException, IndexOutOfBoundsException {
        demandRecord(record);
        demandActive(transaction);
        demandValue(memory, placeSeen(transaction, record));
        return change(transaction, record, GONE);
    }

    public int commit(int transaction) throws IllegalStateException {
        demandActive(transaction);
        int writtenBefore = store.written;
        if (!store.putDirty(changedPages[transaction])) {
            return CRASHED;
        }
        memory.states[transaction] = COMMITTED;
        store.changed(STATES_PAGE);
        return store.put(STATES_PAGE, 0) ? store.written - writtenBefore : CRASHED;
    }

    public int rollback(int transaction) throws IllegalStateException {
        demandActive(transaction);
        memory.states[transaction] = ROLLED;
        store.changed(STATES_PAGE);
        return 1;
    }

    public int sweep() {
        int freed = 0;
        for (int record = 0; record < RECORDS; record++) {
            int more = sweepRecord(record);
            if (more == CRASHED) {
                return CRASHED;
            }
            freed += more;
        }
        return freed;
    }

    public int flush() {
        int writtenBefore = store.written;
        return store.putDirty(store.dirty) ? store.written - writtenBefore : CRASHED;
    }

    public int fail(int k) throws IllegalArgumentException {
        if (k < 0 || k > LATEST_FAILURE) {
            throw new IllegalArgumentException();
        }
        int left = store.failure;
        store.failure = k;
        return left;
    }

    public int crash() {
        int lost = memory.active();
        store.fall();
        return lost;
    }

    public int image(int record) throws IllegalArgumentException, NoSuchElementException {
        demandRecord(record);
        return demandValue(store.disk, store.disk.firstOf(store.disk.committed(), record));
    }

    public int state(int transaction) throws IllegalArgumentException {
        if (transaction < 1 || transaction > TRANSACTIONS) {
            throw new IllegalArgumentException();
        }
        return memory.states[transaction];
    }

    public int version(int record, int k, int what) throws IllegalArgumentException, NoSuchElementException {
        demandRecord(record);
        if (what < 0 || what > 2) {
            throw new IllegalArgumentException();
        }
        int place = memory.placeAt(record, k);
        if (place == NOWHERE) {
            throw new NoSuchElementException();
        }
        if (what == 0) {
            return memory.owners[place];
        }
        if (what == 1) {
            return memory.values[place];
        }
        return place < RECORDS ? NOWHERE : place - RECORDS;
    }

    public int page(int page) throws IllegalArgumentException {
        if (page >= 0 && page < PAGES) {
            return store.earlier[page];
        }
        if (page >= DIRTY_FROM && page < DIRTY_FROM + PAGES) {
            return has(store.dirty, page - DIRTY_FROM) ? 1 : 0;
        }
        throw new IllegalArgumentException();
    }

    public int count(int what) throws IllegalArgumentException {
        switch (what) {
            case 0:
                return memory.freeSlots();
            case 1:
                return memory.active();
            case 2:
                return store.written;
            case 3:
                return store.crashes;
            case 4:
                return Integer.bitCount(store.dirty);
            default:
                throw new IllegalArgumentException();
        }
    }

    private static void demandRecord(int record) {
        if (record < 0 || record >= RECORDS) {
            throw new IllegalArgumentException();
        }
    }

    private void demandActive(int transaction) {
        if (transaction < 1 || transaction > TRANSACTIONS || memory.states[transaction] != ACTIVE) {
            throw new IllegalStateException();
        }
    }

    private static int demandValue(Content content, int place) {
        if (place == NOWHERE || content.values[place] == GONE) {
            throw new NoSuchElementException();
        }
        return content.values[place];
    }

    private int placeSeen(int transaction, int record) {
        return memory.firstOf(seenBy(transaction), record);
    }

    private long seenBy(int transaction) {
        return committedBefore[transaction] | 1L << transaction;
    }

    /** Answers 1, or CRASHED. */
    private int change(int transaction, int record, int value) {
        if (!clean(record)) {
            return CRASHED;
        }
        int owner = memory.owners[record];
        if (owner != NOBODY && !has(seenBy(transaction), owner)) {
            throw new UnsupportedOperationException();
        }
        if (owner == NOBODY) {
            memory.fill(record, transaction, value, NOWHERE);
        } else if (owner == transaction) {
            memory.values[record] = value;
        } else {
            int slot = memory.leastFree();
            if (slot == NOWHERE) {
                throw new IndexOutOfBoundsException();
            }
            if (!store.note(pageOf(slot), pageOf(record))) {
                return CRASHED;
            }
            memory.move(record, slot);
            memory.fill(record, transaction, value, slot);
            changedBy(transaction, slot);
        }
        changedBy(transaction, record);
        return 1;
    }

    private void changedBy(int transaction, int place) {
        store.changed(pageOf(place));
        changedPages[transaction] |= 1 << pageOf(place);
    }

    /** Answers false if there was a crash. */
    private boolean clean(int record) {
        for (int round = 0; round < PLACES && memory.isRolled(record); round++) {
            int slot = memory.links[record];
            if (slot == NOWHERE) {
                memory.empty(record);
            } else {
                if (!store.note(pageOf(record), pageOf(slot))) {
                    return false;
                }
                memory.move(slot, record);
                memory.empty(slot);
                store.changed(pageOf(slot));
            }
            store.changed(pageOf(record));
        }
        return true;
    }

    /** Answers how many slots became free, or CRASHED. */
    private int sweepRecord(int record) {
        if (!clean(record)) {
            return CRASHED;
        }
        int last = memory.firstOf(committedForAll(), record);
        if (last == NOWHERE) {
            return 0;
        }
        int freed = cutBehind(record, last);
        if (freed != CRASHED && last == record && memory.values[record] == GONE) {
            memory.empty(record);
            store.changed(pageOf(record));
        }
        return freed;
    }

    /** The set of the committed transactions whose versions every active one sees. */
    private long committedForAll() {
        long common = memory.committed();
        for (int transaction = 1; transaction <= TRANSACTIONS; transaction++) {
            if (memory.states[transaction] == ACTIVE) {
                common &= committedBefore[transaction];
            }
        }
        return common;
    }

    /** Answers how many slots became free, or CRASHED. */
    private int cutBehind(int record, int last) {
        // The chain is taken down first: freeing its slots breaks it.
        int many = memory.chainBehind(last, behind);
        if (memory.links[last] != NOWHERE) {
            memory.links[last] = NOWHERE;
            store.changed(pageOf(last));
        }
        for (int i = 0; i < many; i++) {
            int slot = behind[i];
            if (!store.note(pageOf(record), pageOf(slot)) || !store.note(pageOf(last), pageOf(slot))) {
                return CRASHED;
            }
            memory.empty(slot);
            store.changed(pageOf(slot));
        }
        return many;
    }

    private static int pageOf(int place) {
        return place < RECORDS
                ? place / RECORDS_A_PAGE
                : FIRST_SLOT_PAGE + (place - RECORDS) / SLOTS_A_PAGE;
    }

    private static boolean has(long set, int member) {
        return (set >> member & 1L) != 0L;
    }

    /**
     * What all pages hold, be it in memory or on the disk. A place is where a version can be: 0 .. 5 are the
     * records, 6 .. 14 the slots; a link is the place of a slot.
     */
    private static final class Content {
        final int[] owners;
        final int[] values;
        final int[] links;
        final int[] states;

        Content() {
            owners = new int[PLACES];
            values = new int[PLACES];
            links = new int[PLACES];
            states = new int[TRANSACTIONS + 1];
            for (int place = 0; place < PLACES; place++) {
                links[place] = NOWHERE;
            }
        }

        void empty(int place) {
            fill(place, NOBODY, 0, NOWHERE);
        }

        void fill(int place, int owner, int value, int link) {
            owners[place] = owner;
            values[place] = value;
            links[place] = link;
        }

        void move(int from, int to) {
            fill(to, owners[from], values[from], links[from]);
        }

        void takePage(Content from, int page) {
            if (page == STATES_PAGE) {
                System.arraycopy(from.states, 0, states, 0, TRANSACTIONS + 1);
                return;
            }
            int first = page < FIRST_SLOT_PAGE
                    ? page * RECORDS_A_PAGE
                    : RECORDS + (page - FIRST_SLOT_PAGE) * SLOTS_A_PAGE;
            int many = page < FIRST_SLOT_PAGE ? RECORDS_A_PAGE : SLOTS_A_PAGE;
            System.arraycopy(from.owners, first, owners, first, many);
            System.arraycopy(from.values, first, values, first, many);
            System.arraycopy(from.links, first, links, first, many);
        }

        boolean isRolled(int record) {
            return owners[record] != NOBODY && states[owners[record]] == ROLLED;
        }

        /** The next place in a chain. */
        int next(int place) {
            int link = links[place];
            return link == NOWHERE || owners[link] == NOBODY ? NOWHERE : link;
        }

        int placeAt(int record, int k) {
            if (k < 0 || k >= PLACES || owners[record] == NOBODY) {
                return NOWHERE;
            }
            int place = record;
            for (int i = 0; i < k && place != NOWHERE; i++) {
                place = next(place);
            }
            return place;
        }

        /** The first place in a record's chain with a version of one of these transactions. */
        int firstOf(long transactions, int record) {
            int place = placeAt(record, 0);
            for (int k = 0; k < PLACES && place != NOWHERE; k++) {
                if (has(transactions, owners[place])) {
                    return place;
                }
                place = next(place);
            }
            return NOWHERE;
        }

        /** Puts the places behind one in its chain into a row; answers how many there are. */
        int chainBehind(int place, int[] row) {
            int many = 0;
            int at = next(place);
            while (at != NOWHERE && many < row.length) {
                row[many] = at;
                many++;
                at = next(at);
            }
            return many;
        }

        int leastFree() {
            for (int place = RECORDS; place < PLACES; place++) {
                if (owners[place] == NOBODY) {
                    return place;
                }
            }
            return NOWHERE;
        }

        int freeSlots() {
            int free = 0;
            for (int place = RECORDS; place < PLACES; place++) {
                free += owners[place] == NOBODY ? 1 : 0;
            }
            return free;
        }

        int leastUnused() {
            for (int transaction = 1; transaction <= TRANSACTIONS; transaction++) {
                if (states[transaction] == NONE) {
                    return transaction;
                }
            }
            return NOBODY;
        }

        int active() {
            return Long.bitCount(setIn(ACTIVE));
        }

        long committed() {
            return setIn(COMMITTED);
        }

        private long setIn(int state) {
            long set = 0L;
            for (int transaction = 1; transaction <= TRANSACTIONS; transaction++) {
                if (states[transaction] == state) {
                    set |= 1L << transaction;
                }
            }
            return set;
        }
    }

    /** The pages in memory and on the disk, and the order in which they go from the one to the other. */
    private static final class Store {
        final Content memory;
        final Content disk;
        /** Of each page: the set of those that are noted to be written before it. */
        final int[] earlier;
        int dirty;
        int written;
        int crashes;
        /** The writings from now on up to the one that fails, or 0. */
        int failure;

        Store() {
            memory = new Content();
            disk = new Content();
            earlier = new int[PAGES];
        }

        void changed(int page) {
            dirty |= 1 << page;
        }

        /** Writes those of a set of pages that are dirty at their turn; answers false if there was a crash. */
        boolean putDirty(int pages) {
            for (int page = 0; page < PAGES; page++) {
                if (has(pages & dirty, page) && !put(page, 0)) {
                    return false;
                }
            }
            return true;
        }

        /** Writes a page; answers false if there was a crash. */
        private boolean put(int page, int depth) {
            // No circle is ever noted, so that no way through the notes is longer than the pages are many.
            if (depth >= PAGES) {
                return true;
            }
            for (int first = 0; first < PAGES; first++) {
                if (has(earlier[page] & dirty, first) && !put(first, depth + 1)) {
                    return false;
                }
            }
            if (failsNow()) {
                fall();
                return false;
            }
            disk.takePage(memory, page);
            settle(page);
            return true;
        }

        private boolean failsNow() {
            if (failure == 0) {
                return false;
            }
            failure--;
            return failure == 0;
        }

        private void settle(int page) {
            dirty &= ~(1 << page);
            for (int later = 0; later < PAGES; later++) {
                earlier[later] &= ~(1 << page);
            }
            written++;
        }

        /** Notes that a page must be written before another; answers false if there was a crash. */
        boolean note(int first, int later) {
            if (first == later) {
                return true;
            }
            if (mustPrecede(later, first) && !put(later, 0)) {
                return false;
            }
            earlier[later] |= 1 << first;
            return true;
        }

        /** Whether a page must be written before another, straight or by way of others. */
        private boolean mustPrecede(int first, int later) {
            int reached = earlier[later];
            for (int round = 0; round < PAGES; round++) {
                for (int page = 0; page < PAGES; page++) {
                    if (has(reached, page)) {
                        reached |= earlier[page];
                    }
                }
            }
            return has(reached, first);
        }

        /** A crash. */
        void fall() {
            for (int page = 0; page < PAGES; page++) {
                memory.takePage(disk, page);
                earlier[page] = 0;
            }
            dirty = 0;
            crashes++;
            for (int transaction = 1; transaction <= TRANSACTIONS; transaction++) {
                if (memory.states[transaction] == ACTIVE) {
                    memory.states[transaction] = ROLLED;
                    changed(STATES_PAGE);
                }
            }
        }
    }
}

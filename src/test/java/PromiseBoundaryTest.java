/** The boundary cases that the promises 1 .. 16 name. Each test bears the sentence that it is for. */
public final class PromiseBoundaryTest {
    private static final int LEAST = Integer.MIN_VALUE;
    private static final int MOST = Integer.MAX_VALUE;

    /** Numbers that are no record: next to 0 .. 5, at the ends of int, and where a shift or a product wraps round. */
    private static final int[] NO_RECORDS = {-1, 6, 7, 15, 32, 64, MOST, LEAST, LEAST + 1, 1 << 30, -6};

    /** Numbers that are no transaction: next to 1 .. 40, at the ends of int, and where a shift wraps round. */
    private static final int[] NO_TRANSACTIONS = {0, -1, 41, 65, 33 + 64, -63, 256 + 1, MOST, LEAST, LEAST + 1};

    private static final String[] ONE = {"begin = 1; write 1 0 1 = 1; commit 1 = 2"};

    /** Record 0 has a version of 2, not committed, and that of 1 in slot 0. */
    private static final String[] TWO = Script.join(ONE, "begin = 2; write 2 0 2 = 1");

    /** 1 is committed, 2 and 3 are active, 4 is rolled, 5 .. 40 are none; 2 and 3 have dirty pages; a failure is set. */
    private static final String[] RICH = {
        "begin = 1; write 1 0 1 = 1; write 1 1 1 = 1; write 1 2 1 = 1; commit 1 = 3; begin = 2; begin = 3",
        "write 2 0 2 = 1; write 3 2 3 = 1; begin = 4; rollback 4 = 1; fail 30 = 0"
    };

    /** The chain of record 0 has ten versions, no slot is free, and 2 sees only the last of them. */
    private static final String[] FULL = {
        "begin = 1; write 1 0 1 = 1; write 1 1 1 = 1; commit 1 = 2; begin = 2",
        Script.each(3, 11, "begin = #; write # 0 # = 1; commit # = 3"),
        "begin = 12; count 0 = 0"
    };

    /** 4 changed all records, with the slots 2 .. 7, and 3 is rolled: all seven pages are dirty. */
    private static final String[] ALL_DIRTY = {
        "begin = 1", Script.each(0, 5, "write 1 # 1 = 1"), "commit 1 = 4; begin = 2; write 2 0 2 = 1; write 2 1 2 = 1",
        "commit 2 = 3; begin = 3; begin = 4", Script.each(0, 5, "write 4 # 4 = 1"), "rollback 3 = 1; count 2 = 11"
    };

    public static void main(String[] args) {
        newObject();
        beginNumbers();
        beginFour();
        beginForty();
        beginWrites();
        readSees();
        readRecords();
        readTransactions();
        readNothing();
        writeAnswers();
        writeArguments();
        writeTransactions();
        writeConflict();
        writeNoRoom();
        eraseAnswers();
        eraseRecords();
        eraseTransactions();
        eraseNothing();
        eraseConflict();
        eraseNoRoom();
        commitPages();
        commitStates();
        commitTransactions();
        rollback();
        rollbackTransactions();
        sweepNothing();
        sweepSeenByAll();
        sweepSeenByFirstAndLast();
        sweepLinks();
        sweepNotes();
        sweepNotesInOrder();
        sweepGone();
        sweepAnswers();
        flush();
        failSets();
        failAnswers();
        failNumbers();
        crash();
        image();
        imageRecords();
        imageNothing();
        state();
        versionParts();
        versionArguments();
        versionPlaces();
        pageSets();
        pageNumbers();
        countFreeAndActive();
        countWrittenAndCrashes();
        countDirty();
        countNumbers();
        Script.end();
    }

    /** Refuses a call for each of the numbers, which stand in it as #, in a new object and in one that has been used. */
    private static void refuseEach(String sentence, String call, int[] numbers, String exception) {
        for (int number : numbers) {
            Script.run(sentence, call.replace("#", Integer.toString(number)) + " = " + exception);
            Script.refused(sentence, RICH, call.replace("#", Integer.toString(number)), exception);
        }
    }

    private static void newObject() {
        String sentence = "Promise 1: makes an object in the state that the terms give.";
        Script.run(sentence, Script.each(1, 40, "state # = 0"), Script.each(0, 5, "version # 0 0 = NoSuchElement"),
                Script.each(0, 5, "image # = NoSuchElement"), Script.each(0, 6, "page # = 0"), Script.each(10, 16, "page # = 0"),
                "count 0 = 9; count 1 = 0; count 2 = 0; count 3 = 0; count 4 = 0; fail 0 = 0");
        RecordVersions used = Script.run(sentence, ALL_DIRTY);
        Script.run(sentence + " (beside another object)", "count 0 = 9; count 2 = 0; count 4 = 0; begin = 1");
        Script.due(sentence + " (the other one stays as it was)", used.count(0) == 1 && used.count(4) == 7);
    }

    private static void beginNumbers() {
        String sentence = "Promise 2: Begins a transaction, the least number with the state NONE: ACTIVE;";
        Script.run(sentence + " (the first)", "begin = 1; state 1 = 1; state 2 = 0");
        Script.run(sentence + " (no number is used again)", "begin = 1; begin = 2; commit 1 = 1; begin = 3; rollback 2 = 1",
                "begin = 4; crash = 2; begin = 5; state 5 = 1");
        Script.run(sentence + " (but one that a crash gave back)", "begin = 1; fail 1 = 0; begin = -9; state 1 = 3; state 2 = 0",
                "begin = 2; state 2 = 1");
        Script.run(sentence + " (the last)", Script.each(1, 39, "begin = #; commit # = 1"), "state 40 = 0; begin = 40; state 40 = 1");
    }

    private static void beginFour() {
        String sentence = "Promise 2: IllegalStateException: 4 are active,";
        String[] four = {Script.each(1, 4, "begin = #")};
        Script.run(sentence + " (three are)", "begin = 1; begin = 2; begin = 3; begin = 4; count 1 = 4");
        Script.refused(sentence, four, "begin", "IllegalState");
        Script.refused(sentence, Script.join(four, "write 1 0 1 = 1; fail 1 = 0"), "begin", "IllegalState");
        Script.run(sentence + " (one was committed)", Script.join(four, "begin = IllegalState; commit 3 = 1; begin = 5",
                "begin = IllegalState"));
        Script.run(sentence + " (one was rolled)", Script.join(four, "begin = IllegalState; rollback 1 = 1; begin = 5",
                "begin = IllegalState"));
        Script.run(sentence + " (there was a crash)", Script.join(four, "crash = 4", Script.each(5, 8, "begin = #"),
                "begin = IllegalState"));
    }

    private static void beginForty() {
        String sentence = "Promise 2: or there is no number any more.";
        String[] forty = {Script.each(1, 40, "begin = #; rollback # = 1")};
        Script.run(sentence, Script.join(forty, "begin = IllegalState; count 1 = 0; count 2 = 40; page 16 = 1; state 40 = 3",
                "flush = 1; begin = IllegalState; count 4 = 0"));
        Script.refused(sentence, forty, "begin", "IllegalState");
        Script.run(sentence + " (nor after a crash)", Script.join(forty, "crash = 0; begin = IllegalState"));
        Script.run(sentence + " (four are active too)", Script.each(1, 36, "begin = #; commit # = 1"), Script.each(37, 40, "begin = #"),
                "begin = IllegalState; rollback 37 = 1; begin = IllegalState; write 40 5 1 = 1; commit 40 = 2; image 5 = 1");
    }

    private static void beginWrites() {
        String sentence = "Promise 2: page 6 is changed and written. Answers its number.";
        Script.run(sentence, "count 2 = 0; begin = 1; count 2 = 1; page 16 = 0; count 4 = 0; crash = 1; state 1 = 3");
        Script.run(sentence + " (no other page)", "begin = 1; write 1 0 1 = 1; begin = 2; count 2 = 2; page 10 = 1; count 4 = 1");
    }

    private static void readSees() {
        String sentence = "Promise 3: The value of the first version in the chain that T sees.";
        Script.run(sentence + " (the first of ten, and the last)", Script.join(FULL, "read 12 0 = 11; read 2 0 = 1"));
        Script.run(sentence + " (not an older one that it sees too)", Script.join(TWO, "read 2 0 = 2; commit 2 = 3; begin = 3",
                "read 3 0 = 2; write 3 0 3 = 1; read 3 0 = 3; begin = 4; read 4 0 = 2"));
        Script.run(sentence + " (reading writes and cleans nothing)", Script.join(TWO, "rollback 2 = 1; flush = 3; begin = 3",
                "count 2 = 8; read 3 0 = 1; count 2 = 8; count 4 = 0; version 0 0 0 = 2"));
    }

    private static void readRecords() {
        String sentence = "Promise 3: IllegalArgumentException: record not 0 .. 5.";
        Script.run(sentence + " (0 and 5)", "begin = 1; write 1 0 10 = 1; write 1 5 15 = 1; read 1 0 = 10; read 1 5 = 15");
        refuseEach(sentence, "read 2 #", NO_RECORDS, "IllegalArgument");
    }

    private static void readTransactions() {
        String sentence = "Promise 3: IllegalStateException: T is not ACTIVE.";
        refuseEach(sentence, "read # 0", NO_TRANSACTIONS, "IllegalState");
        refuseEach(sentence, "read # 0", new int[] {5, 40}, "IllegalState");
        Script.refused(sentence + " (COMMITTED)", RICH, "read 1 0", "IllegalState");
        Script.refused(sentence + " (ROLLED)", RICH, "read 4 0", "IllegalState");
        Script.refused(sentence + " (by a crash)", Script.join(RICH, "crash = 2"), "read 2 0", "IllegalState");
        Script.run(sentence + " (1 and 40)", "begin = 1; write 1 0 7 = 1; read 1 0 = 7; commit 1 = 2",
                Script.each(2, 39, "begin = #; rollback # = 1"), "begin = 40; read 40 0 = 7");
    }

    private static void readNothing() {
        String sentence = "Promise 3: NoSuchElementException: there is none, or it is GONE there.";
        Script.refused(sentence + " (EMPTY)", RICH, "read 2 5", "NoSuchElement");
        Script.refused(sentence + " (none that T sees)", Script.join(RICH, "write 3 5 5 = 1"), "read 2 5", "NoSuchElement");
        Script.refused(sentence + " (GONE, its own)", Script.join(RICH, "erase 2 0 = 1"), "read 2 0", "NoSuchElement");
        Script.refused(sentence + " (GONE, another's)", Script.join(ONE, "begin = 2; erase 2 0 = 1; commit 2 = 3; begin = 3"),
                "read 3 0", "NoSuchElement");
        Script.run(sentence + " (GONE, but not where T sees)", Script.join(ONE, "begin = 2; begin = 3; erase 2 0 = 1; read 3 0 = 1",
                "commit 2 = 3; read 3 0 = 1; begin = 4; read 4 0 = NoSuchElement; write 4 0 0 = 1; read 4 0 = 0"));
    }

    private static void writeAnswers() {
        String sentence = "Promise 4: A change to a value: 1.";
        Script.run(sentence, "begin = 1; write 1 0 5 = 1; write 1 0 5 = 1; write 1 0 6 = 1; read 1 0 = 6; count 2 = 1; commit 1 = 2",
                "begin = 2; write 2 0 6 = 1; read 2 0 = 6; version 0 1 1 = 6");
    }

    private static void writeArguments() {
        String sentence = "Promise 4: IllegalArgumentException: record not 0 .. 5, value not 0 .. 1000000.";
        Script.run(sentence + " (the first and the last)", "begin = 1; write 1 0 0 = 1; write 1 5 1000000 = 1; read 1 0 = 0",
                "read 1 5 = 1000000; write 1 0 1000000 = 1; write 1 5 0 = 1; read 1 0 = 1000000; read 1 5 = 0");
        refuseEach(sentence, "write 2 # 5", NO_RECORDS, "IllegalArgument");
        refuseEach(sentence, "write 2 0 #", new int[] {-1, 1000001, -1000000, MOST, LEAST, LEAST + 1}, "IllegalArgument");
        Script.refused(sentence + " (both)", RICH, "write 2 6 -1", "IllegalArgument");
    }

    private static void writeTransactions() {
        String sentence = "Promise 4: IllegalStateException: T is not ACTIVE.";
        refuseEach(sentence, "write # 5 0", NO_TRANSACTIONS, "IllegalState");
        refuseEach(sentence, "write # 5 0", new int[] {5, 40}, "IllegalState");
        Script.refused(sentence + " (COMMITTED)", RICH, "write 1 5 0", "IllegalState");
        Script.refused(sentence + " (ROLLED)", RICH, "write 4 5 0", "IllegalState");
        Script.refused(sentence + " (by a crash)", Script.join(RICH, "crash = 2"), "write 2 5 0", "IllegalState");
        Script.run(sentence + " (40)", Script.each(1, 39, "begin = #; rollback # = 1"), "begin = 40; write 40 5 0 = 1; commit 40 = 2",
                "image 5 = 0; version 5 0 0 = 40");
    }

    private static void writeConflict() {
        String sentence = "Promise 4: UnsupportedOperationException: a conflict.";
        Script.refused(sentence + " (with one that is ACTIVE)", RICH, "write 2 2 5", "UnsupportedOperation");
        Script.refused(sentence + " (with one COMMITTED since)", Script.join(RICH, "commit 3 = 3"), "write 2 2 5",
                "UnsupportedOperation");
        Script.run(sentence + " (none with one that is ROLLED)", Script.join(RICH, "rollback 3 = 1; write 2 2 5 = 1; read 2 2 = 5"));
        Script.run(sentence + " (none with one COMMITTED before)", Script.join(RICH, "write 2 1 5 = 1; read 2 1 = 5"));
        Script.run(sentence + " (none with itself)", Script.join(RICH, "write 2 0 5 = 1; read 2 0 = 5"));
    }

    private static void writeNoRoom() {
        String sentence = "Promise 4: IndexOutOfBoundsException: no room.";
        Script.refused(sentence, FULL, "write 12 0 5", "IndexOutOfBounds");
        Script.refused(sentence, FULL, "write 2 1 5", "IndexOutOfBounds");
        Script.run(sentence + " (one slot is free)", "begin = 1; write 1 0 1 = 1; write 1 1 1 = 1; commit 1 = 2; begin = 2",
                Script.each(3, 10, "begin = #; write # 0 # = 1; commit # = 3"), "count 0 = 1; write 2 1 5 = 1; count 0 = 0",
                "version 1 1 2 = 8; begin = 11; write 11 0 5 = IndexOutOfBounds");
        Script.run(sentence + " (none is needed)", Script.join(FULL, "write 12 5 5 = 1; write 12 5 6 = 1; read 12 5 = 6"));
        Script.run(sentence + " (one became free)", Script.join(FULL, "write 12 0 5 = IndexOutOfBounds; commit 2 = 1; sweep = 9",
                "write 12 0 5 = 1; version 0 1 2 = 0"));
    }

    private static void eraseAnswers() {
        String sentence = "Promise 5: A change to GONE: 1.";
        Script.run(sentence, Script.join(ONE, "begin = 2; erase 2 0 = 1; version 0 0 0 = 2; version 0 0 1 = -1; version 0 1 1 = 1",
                "page 0 = 8; page 10 = 1; page 13 = 1; count 0 = 8; count 2 = 4; read 2 0 = NoSuchElement; commit 2 = 3"));
        Script.run(sentence + " (its own)", "begin = 1; write 1 5 0 = 1; erase 1 5 = 1; version 5 0 1 = -1; version 5 0 0 = 1; count 0 = 9");
    }

    private static void eraseRecords() {
        String sentence = "Promise 5: IllegalArgumentException: record not 0 .. 5.";
        Script.run(sentence + " (0 and 5)", "begin = 1; write 1 0 1 = 1; write 1 5 1 = 1; erase 1 0 = 1; erase 1 5 = 1");
        refuseEach(sentence, "erase 2 #", NO_RECORDS, "IllegalArgument");
    }

    private static void eraseTransactions() {
        String sentence = "Promise 5: IllegalStateException: T is not ACTIVE.";
        refuseEach(sentence, "erase # 0", NO_TRANSACTIONS, "IllegalState");
        refuseEach(sentence, "erase # 0", new int[] {5, 40}, "IllegalState");
        Script.refused(sentence + " (COMMITTED)", RICH, "erase 1 1", "IllegalState");
        Script.refused(sentence + " (ROLLED)", RICH, "erase 4 1", "IllegalState");
        Script.refused(sentence + " (by a crash)", Script.join(RICH, "crash = 2"), "erase 2 1", "IllegalState");
    }

    private static void eraseNothing() {
        String sentence = "Promise 5: NoSuchElementException: read would throw it.";
        Script.refused(sentence + " (EMPTY)", RICH, "erase 2 5", "NoSuchElement");
        Script.refused(sentence + " (none that T sees)", Script.join(RICH, "write 3 5 5 = 1"), "erase 2 5", "NoSuchElement");
        Script.refused(sentence + " (GONE, its own)", Script.join(RICH, "erase 2 0 = 1"), "erase 2 0", "NoSuchElement");
        Script.refused(sentence + " (GONE, another's)", Script.join(ONE, "begin = 2; erase 2 0 = 1; commit 2 = 3; begin = 3"),
                "erase 3 0", "NoSuchElement");
        Script.refused(sentence + " (nothing is cleaned)", new String[] {"begin = 1; write 1 0 1 = 1; rollback 1 = 1; begin = 2"},
                "erase 2 0", "NoSuchElement");
        Script.run(sentence + " (it would not, for a value of 0)", "begin = 1; write 1 0 0 = 1; erase 1 0 = 1");
        Script.run(sentence + " (it would not, behind a rolled one)", Script.join(TWO, "rollback 2 = 1; begin = 3; erase 3 0 = 1",
                "version 0 0 0 = 3; version 0 0 1 = -1; version 0 1 0 = 1"));
    }

    private static void eraseConflict() {
        String sentence = "Promise 5: UnsupportedOperationException: a conflict.";
        Script.refused(sentence + " (with one that is ACTIVE)", RICH, "erase 2 2", "UnsupportedOperation");
        Script.refused(sentence + " (with one COMMITTED since)", Script.join(RICH, "commit 3 = 3"), "erase 2 2",
                "UnsupportedOperation");
        Script.run(sentence + " (none with one that is ROLLED)", Script.join(RICH, "rollback 3 = 1; erase 2 2 = 1"));
    }

    private static void eraseNoRoom() {
        String sentence = "Promise 5: IndexOutOfBoundsException: no room.";
        Script.refused(sentence, FULL, "erase 12 0", "IndexOutOfBounds");
        Script.refused(sentence, FULL, "erase 2 1", "IndexOutOfBounds");
        Script.run(sentence + " (none is needed)", Script.join(FULL, "write 12 5 5 = 1; erase 12 5 = 1; version 5 0 1 = -1"));
        Script.run(sentence + " (one became free)", Script.join(FULL, "erase 12 0 = IndexOutOfBounds; commit 2 = 1; sweep = 9",
                "erase 12 0 = 1; version 0 0 1 = -1; version 0 1 0 = 11"));
    }

    private static void commitPages() {
        String sentence = "Promise 6: All dirty pages that T changed are written, by rising numbers (each if it is dirty when its "
                + "turn comes);";
        Script.run(sentence + " (none)", "begin = 1; begin = 2; write 2 0 2 = 1; commit 1 = 1; page 10 = 1; count 2 = 3");
        Script.run(sentence + " (all)", Script.join(ALL_DIRTY, "count 4 = 7; commit 4 = 7; count 4 = 0; count 2 = 18"));
        Script.run(sentence + " (all but those of others)", "begin = 1; begin = 2; write 1 1 1 = 1; write 2 3 2 = 1; write 1 5 1 = 1",
                "commit 1 = 3; page 10 = 0; page 11 = 1; page 12 = 0; image 3 = NoSuchElement; image 5 = 1");
        Script.run(sentence + " (one that is not dirty any more)", "begin = 1; write 1 0 1 = 1; write 1 2 1 = 1; flush = 2",
                "write 1 2 2 = 1; commit 1 = 2; image 0 = 1; image 2 = 2");
        Script.run(sentence + " (one that went before another)", Script.join(TWO, "page 0 = 8; commit 2 = 3; count 2 = 7"));
        for (int k = 1; k <= 3; k++) {
            Script.run(sentence + " (rising, a failure at " + k + ")", "begin = 1; write 1 4 1 = 1; write 1 2 1 = 1; write 1 0 1 = 1",
                    "fail " + k + " = 0; commit 1 = -9; version 0 0 0 = " + (k > 1 ? 1 : "NoSuchElement"),
                    "version 2 0 0 = " + (k > 2 ? 1 : "NoSuchElement") + "; version 4 0 0 = NoSuchElement");
        }
    }

    private static void commitStates() {
        String sentence = "Promise 6: then T is COMMITTED, page 6 being changed and written. Answers how many pages were written in all.";
        Script.run(sentence, "begin = 1; commit 1 = 1; state 1 = 2; page 16 = 0; count 2 = 2; count 1 = 0; crash = 0; state 1 = 2");
        Script.run(sentence + " (the last page fails)", "begin = 1; write 1 0 1 = 1; fail 2 = 0; commit 1 = -9; state 1 = 3",
                "image 0 = NoSuchElement; version 0 0 0 = 1; count 2 = 2");
        Script.run(sentence + " (the next one would)", "begin = 1; write 1 0 1 = 1; fail 3 = 0; commit 1 = 2; state 1 = 2; image 0 = 1",
                "fail 0 = 1");
        // Page 3, which must go before page 0, was changed by 3 too; page 1 was not.
        Script.run(sentence + " (those that go before are counted)", "begin = 1; write 1 0 1 = 1; write 1 2 1 = 1; write 1 1 1 = 1",
                "commit 1 = 3; begin = 2; write 2 0 2 = 1; begin = 3; write 3 1 5 = 1; flush = 2; write 2 2 2 = 1; page 13 = 1",
                "commit 3 = 2; count 4 = 1; page 11 = 1");
        Script.run(sentence + " (the highest number)", Script.each(1, 39, "begin = #; rollback # = 1"), "begin = 40; commit 40 = 1",
                "state 40 = 2; crash = 0; state 40 = 2; state 39 = 3");
    }

    private static void commitTransactions() {
        String sentence = "Promise 6: IllegalStateException: T is not ACTIVE.";
        refuseEach(sentence, "commit #", NO_TRANSACTIONS, "IllegalState");
        refuseEach(sentence, "commit #", new int[] {5, 40}, "IllegalState");
        Script.refused(sentence + " (COMMITTED)", RICH, "commit 1", "IllegalState");
        Script.refused(sentence + " (ROLLED)", RICH, "commit 4", "IllegalState");
        Script.refused(sentence + " (by a crash)", Script.join(RICH, "crash = 2"), "commit 2", "IllegalState");
    }

    private static void rollback() {
        String sentence = "Promise 7: T is ROLLED (page 6 changed): 1.";
        Script.run(sentence, Script.join(TWO, "count 2 = 4; rollback 2 = 1; state 2 = 3; page 16 = 1; count 2 = 4; count 1 = 0",
                "version 0 0 0 = 2; count 0 = 8; count 4 = 3; flush = 3; page 16 = 0"));
        Script.run(sentence + " (one that changed nothing)", "begin = 1; rollback 1 = 1; count 4 = 1; state 1 = 3");
        Script.run(sentence + " (the highest number)", Script.each(1, 40, "begin = #; rollback # = 1"), "state 40 = 3");
    }

    private static void rollbackTransactions() {
        String sentence = "Promise 7: IllegalStateException: T is not ACTIVE.";
        refuseEach(sentence, "rollback #", NO_TRANSACTIONS, "IllegalState");
        refuseEach(sentence, "rollback #", new int[] {5, 40}, "IllegalState");
        Script.refused(sentence + " (COMMITTED)", RICH, "rollback 1", "IllegalState");
        Script.refused(sentence + " (ROLLED)", Script.join(RICH, "flush = 4; fail 9 = 26"), "rollback 4", "IllegalState");
        Script.refused(sentence + " (by a crash)", Script.join(RICH, "crash = 2; flush = 1"), "rollback 2", "IllegalState");
    }

    private static void sweepNothing() {
        String sentence = "Promise 8: For each record, by rising numbers: it is cleaned;";
        Script.run(sentence + " (a new object)", "sweep = 0; count 4 = 0; count 2 = 0; count 0 = 9");
        // Of the change by 2 only the slot's page came to the disk, so that slot 0, GONE, is in no chain.
        Script.run(sentence + " (no slot that is in no chain)", "begin = 1; write 1 0 1 = 1; erase 1 0 = 1; commit 1 = 2; begin = 2",
                "write 2 0 2 = 1; fail 2 = 0; flush = -9; version 0 0 1 = -1; version 0 1 0 = NoSuchElement; count 0 = 8; sweep = 0",
                "version 0 0 0 = NoSuchElement; count 0 = 8; page 13 = 0");
        Script.run(sentence + " (each)", "begin = 1", Script.each(0, 5, "write 1 # 1 = 1"), "rollback 1 = 1; flush = 4; sweep = 0",
                Script.each(0, 5, "version # 0 0 = NoSuchElement"), "page 10 = 1; page 11 = 1; page 12 = 1; count 4 = 3");
        // Cleaning record 0 writes page 3, then cleaning record 2 writes page 4, since both are still to be written.
        String[] rolled = {"begin = 1", Script.each(0, 3, "write 1 # 1 = 1"), "commit 1 = 3; begin = 2; write 2 0 2 = 1",
            "write 2 1 2 = 1; write 2 3 2 = 1; write 2 2 2 = 1; version 2 1 2 = 3; rollback 2 = 1; count 2 = 5"};
        Script.run(sentence + " (rising)", Script.join(rolled, "fail 2 = 0; sweep = -9; count 2 = 6; count 0 = 6"));
        Script.run(sentence + " (rising)", Script.join(rolled, "sweep = 0; count 0 = 9", Script.each(0, 3, "version # 0 0 = 1")));
    }

    private static void sweepSeenByAll() {
        String sentence = "Promise 8: if its chain has a version of a COMMITTED transaction that every ACTIVE one sees, those behind "
                + "the first such go:";
        Script.run(sentence + " (none is ACTIVE)", Script.join(TWO, "commit 2 = 3; sweep = 1; version 0 1 0 = NoSuchElement"));
        Script.run(sentence + " (it has none that is COMMITTED)", "begin = 1; write 1 0 1 = 1; flush = 1; sweep = 0; count 4 = 0",
                "version 0 0 0 = 1");
        Script.run(sentence + " (the first is not COMMITTED)", Script.join(TWO, "flush = 2; sweep = 0; version 0 1 0 = 1; count 4 = 0"));
        Script.run(sentence + " (one sees it not)", Script.join(ONE, "begin = 2; begin = 3; write 3 0 3 = 1; commit 3 = 3; begin = 4",
                "sweep = 0; version 0 1 0 = 1; rollback 2 = 1; sweep = 1; version 0 1 0 = NoSuchElement"));
        Script.run(sentence + " (none that all see)", "begin = 1; begin = 2; write 1 0 1 = 1; commit 1 = 2; begin = 3; write 3 0 3 = 1",
                "commit 3 = 3; sweep = 0; version 0 1 0 = 1; commit 2 = 1; sweep = 1");
        Script.run(sentence + " (four are ACTIVE, and one needs the middle)", Script.join(TWO, "commit 2 = 3; begin = 3; begin = 4",
                "write 4 0 4 = 1; commit 4 = 3; begin = 5; begin = 6; begin = 7; sweep = 1; version 0 0 0 = 4; version 0 1 0 = 2",
                "version 0 2 0 = NoSuchElement; read 3 0 = 2; read 7 0 = 4"));
    }

    private static void sweepSeenByFirstAndLast() {
        String sentence = "Promise 8: if its chain has a version of a COMMITTED transaction that every ACTIVE one sees, those behind "
                + "the first such go:";
        Script.run(sentence + " (1 is ACTIVE)", "begin = 1; begin = 2; write 2 0 2 = 1; commit 2 = 2; begin = 3; write 3 0 3 = 1",
                "commit 3 = 3; sweep = 0; version 0 1 0 = 2; rollback 1 = 1; sweep = 1; version 0 1 0 = NoSuchElement");
        Script.run(sentence + " (40 is ACTIVE)", Script.join(ONE, Script.each(2, 38, "begin = #; rollback # = 1"), "begin = 39; begin = 40",
                "write 39 0 39 = 1; commit 39 = 3; sweep = 0; read 40 0 = 1; commit 40 = 1; sweep = 1; version 0 0 0 = 39"));
    }

    private static void sweepLinks() {
        String sentence = "Promise 8: if it has a link, it has none now (its page changed);";
        Script.run(sentence, Script.join(TWO, "commit 2 = 3; page 10 = 0; sweep = 1; page 10 = 1; version 0 1 0 = NoSuchElement"));
        Script.run(sentence + " (it has none)", Script.join(ONE, "sweep = 0; page 10 = 0; count 4 = 0"));
        Script.run(sentence + " (in a slot)", Script.join(TWO, "commit 2 = 3; begin = 3; write 3 0 3 = 1; flush = 2; sweep = 1",
                "page 10 = 0; page 13 = 1; version 0 1 2 = 1; version 0 2 0 = NoSuchElement; version 0 0 0 = 3"));
        Script.run(sentence + " (it goes to the disk so)", Script.join(TWO, "commit 2 = 3; sweep = 1; flush = 2; crash = 0",
                "version 0 0 0 = 2; version 0 1 0 = NoSuchElement; count 0 = 9"));
    }

    private static void sweepNotes() {
        String sentence = "Promise 8: then for each slot that was behind it, from the front of the chain on, it is noted that the "
                + "record's page, and then that the page of that first one, must be written before that of the slot, and the slot "
                + "is FREE (its page changed).";
        Script.run(sentence + " (none was behind it)", Script.join(ONE, "sweep = 0; page 3 = 0; page 4 = 0; page 5 = 0"));
        Script.run(sentence + " (one)", Script.join(TWO, "commit 2 = 3; sweep = 1; page 3 = 1; page 13 = 1; page 0 = 0; count 0 = 9"));
        Script.run(sentence + " (nine)", Script.join(FULL, "commit 2 = 1; sweep = 9; page 3 = 1; page 4 = 1; page 5 = 1; count 0 = 9",
                "page 13 = 1; page 14 = 1; page 15 = 1; count 4 = 4; page 0 = 0"));
        // The first one is in slot 3, on page 4; behind it are the slots 2, 1, 0 on page 3.
        String[] slots = Script.join(ONE, Script.each(2, 4, "begin = #; write # 0 # = 1; commit # = 3"),
                "begin = 5; write 5 0 5 = 1; version 0 1 2 = 3");
        Script.run(sentence + " (two pages)", Script.join(slots, "flush = 2; sweep = 3; page 3 = 17; page 4 = 0; count 0 = 8; count 4 = 2"));
        Script.run(sentence + " (two pages, and an order that was noted)", Script.join(slots, "page 0 = 16; count 2 = 16; sweep = 3",
                "count 2 = 16; page 0 = 16; page 3 = 17; page 4 = 0"));
    }

    private static void sweepNotesInOrder() {
        String sentence = "Promise 8: it is noted that the record's page, and then that the page of that first one, must be written "
                + "before that of the slot";
        // Record 2 has its first one in slot 3, on page 4, and slot 0 behind it, on page 3. Page 3 is before 0 and 0 (by
        // cleaning record 1) before 4, so that the second note writes page 3; by the first one page 1 then goes before.
        Script.run(sentence, "begin = 1; write 1 0 1 = 1; write 1 1 1 = 1; write 1 2 1 = 1; write 1 4 1 = 1; commit 1 = 4; begin = 2",
                "write 2 2 2 = 1; commit 2 = 3; begin = 3; write 3 0 3 = 1; write 3 4 3 = 1; begin = 4; write 4 2 4 = 1",
                "version 2 1 2 = 3; begin = 5; write 5 1 5 = 1; version 1 1 2 = 4; flush = 5; rollback 3 = 1; begin = 6; count 2 = 18",
                "write 6 0 6 = 1; count 2 = 19; page 0 = 8; write 4 3 7 = 1; page 11 = 1; rollback 5 = 1; sweep = 1; count 2 = 21",
                "page 11 = 0; page 0 = 0; page 3 = 20; page 4 = 1; count 0 = 7");
        sentence = "Promise 8: then for each slot that was behind it, from the front of the chain on,";
        // Behind the first one of record 0 are slot 3, on page 4, and slot 0, on page 3; both pages must be written before
        // page 0, and page 1 before page 3. From the front on, the writings are of the pages 4, 1, 3.
        String[] front = {"begin = 1; begin = 2", Script.each(0, 3, "write 1 # 1 = 1"), "commit 1 = 3; begin = 3; write 3 0 3 = 1",
            "commit 3 = 3; begin = 4; write 4 2 4 = 1; write 4 3 4 = 1; begin = 5; write 5 0 5 = 1; version 0 1 2 = 3; commit 5 = 3",
            "rollback 4 = 1; write 2 2 9 = UnsupportedOperation; page 3 = 2; commit 2 = 1; begin = 6; begin = 7; write 6 0 6 = 1",
            "version 0 1 2 = 1; write 7 1 7 = 1; version 1 1 2 = 4; page 0 = 24"};
        Script.run(sentence, Script.join(front, "fail 1 = 0; sweep = -9; count 0 = 5; version 3 0 0 = 1"));
        Script.run(sentence, Script.join(front, "fail 2 = 0; sweep = -9; count 0 = 4; version 3 0 0 = 1"));
        Script.run(sentence, Script.join(front, "fail 3 = 0; sweep = -9; count 0 = 4; version 3 0 0 = 4"));
        Script.run(sentence, Script.join(front, "sweep = 2; version 0 1 0 = 5; version 0 2 0 = NoSuchElement"));
    }

    private static void sweepGone() {
        String sentence = "Promise 8: If that first one is the record's own, and GONE, the record is EMPTY then (its page changed).";
        Script.run(sentence + " (with a slot behind it)", Script.join(ONE, "begin = 2; erase 2 0 = 1; commit 2 = 3; sweep = 1",
                "version 0 0 0 = NoSuchElement; page 10 = 1; count 0 = 9; image 0 = NoSuchElement"));
        Script.run(sentence + " (with none)", "begin = 1; write 1 0 1 = 1; erase 1 0 = 1; commit 1 = 2; version 0 0 1 = -1; sweep = 0",
                "version 0 0 0 = NoSuchElement; page 10 = 1; count 4 = 1");
        Script.run(sentence + " (not GONE, though 0)", "begin = 1; write 1 0 0 = 1; commit 1 = 2; sweep = 0; version 0 0 1 = 0; page 10 = 0");
        Script.run(sentence + " (not the record's own)", Script.join(ONE, "begin = 2; erase 2 0 = 1; commit 2 = 3; begin = 3",
                "write 3 0 3 = 1; flush = 2; sweep = 1; version 0 0 0 = 3; version 0 1 1 = -1; version 0 2 0 = NoSuchElement"));
        Script.run(sentence + " (not COMMITTED)", "begin = 1; write 1 0 1 = 1; erase 1 0 = 1; sweep = 0; version 0 0 1 = -1");
        Script.run(sentence + " (one sees it not)", Script.join(ONE, "begin = 2; begin = 3; erase 2 0 = 1; commit 2 = 3; sweep = 0",
                "version 0 0 1 = -1; read 3 0 = 1"));
    }

    private static void sweepAnswers() {
        String sentence = "Promise 8: Answers how many slots became FREE by this, cleaning not counted.";
        Script.run(sentence + " (none)", "sweep = 0");
        Script.run(sentence + " (by cleaning alone)", Script.join(TWO, "rollback 2 = 1; count 0 = 8; sweep = 0; count 0 = 9"));
        Script.run(sentence + " (by both)", Script.join(TWO, "commit 2 = 3; begin = 3; write 3 0 3 = 1; rollback 3 = 1; count 0 = 7",
                "sweep = 1; count 0 = 9"));
        Script.run(sentence + " (all)", Script.join(FULL, "commit 2 = 1; sweep = 9; count 0 = 9; sweep = 0"));
        Script.run(sentence + " (of all records)", Script.join(ALL_DIRTY, "commit 4 = 7; sweep = 8; count 0 = 9"));
    }

    private static void flush() {
        String sentence = "Promise 9: Writes all dirty pages, by rising numbers (each if it is dirty when its turn comes); answers how "
                + "many were written.";
        Script.run(sentence + " (none)", "flush = 0; begin = 1; flush = 0; count 2 = 1");
        Script.run(sentence + " (one)", "begin = 1; rollback 1 = 1; flush = 1; flush = 0; count 2 = 2; crash = 0; page 16 = 0");
        Script.run(sentence + " (all)", Script.join(ALL_DIRTY, "count 4 = 7; flush = 7; count 4 = 0; count 2 = 18; flush = 0"));
        Script.run(sentence + " (one that went before another)", Script.join(TWO, "count 4 = 2; flush = 2; count 4 = 0; count 2 = 6"));
        for (int k = 1; k <= 4; k++) {
            Script.run(sentence + " (rising, a failure at " + k + ")", "begin = 1; begin = 2; write 1 4 1 = 1; write 1 2 1 = 1",
                    "write 1 0 1 = 1; rollback 2 = 1; flush = 4; write 1 4 2 = 1; write 1 2 2 = 1; write 1 0 2 = 1; rollback 1 = 1",
                    "fail " + k + " = 0; flush = -9; version 0 0 1 = " + (k > 1 ? 2 : 1) + "; version 2 0 1 = " + (k > 2 ? 2 : 1),
                    "version 4 0 1 = " + (k > 3 ? 2 : 1) + "; page 16 = 1; state 1 = 3; state 2 = 3");
        }
    }

    private static void failSets() {
        String sentence = "Promise 10: Sets a failure for the k-th (1 .. 50) writing from now on, in place of one that is set, or none (0);";
        Script.run(sentence + " (1)", "fail 1 = 0; begin = -9; begin = 1");
        Script.run(sentence + " (2)", "fail 2 = 0; begin = 1; begin = -9; begin = 2");
        Script.run(sentence + " (50)", "fail 50 = 0", Script.each(1, 24, "begin = #; commit # = 1"), "begin = 25; count 2 = 49",
                "count 3 = 0; commit 25 = -9; count 2 = 49; count 3 = 1; begin = 26; commit 26 = 1");
        Script.run(sentence + " (0)", "fail 1 = 0; fail 0 = 1; begin = 1; count 3 = 0");
        Script.run(sentence + " (in place of an earlier one)", "fail 1 = 0; fail 3 = 1; begin = 1; begin = 2; begin = -9");
        Script.run(sentence + " (in place of a later one)", "fail 50 = 0; fail 1 = 50; begin = -9; count 3 = 1; begin = 1");
        Script.run(sentence + " (from now on)", "begin = 1; begin = 2; fail 2 = 0; commit 1 = 1; commit 2 = -9");
    }

    private static void failAnswers() {
        String sentence = "Promise 10: answers what was left of the one before, 0 for none.";
        Script.run(sentence + " (none)", "fail 0 = 0; fail 0 = 0; fail 50 = 0");
        Script.run(sentence + " (all of it)", "fail 50 = 0; fail 1 = 50; fail 7 = 1; fail 0 = 7; fail 0 = 0");
        Script.run(sentence + " (some of it)", "fail 50 = 0; begin = 1; fail 50 = 49; commit 1 = 1; begin = 2; fail 0 = 48");
        Script.run(sentence + " (1, the last)", "fail 3 = 0; begin = 1; begin = 2; fail 1 = 1; begin = -9");
        Script.run(sentence + " (it has happened)", "fail 1 = 0; begin = -9; fail 0 = 0");
        Script.run(sentence + " (a call that writes nothing)", "fail 5 = 0; flush = 0; sweep = 0; fail 0 = 5");
        Script.run(sentence + " (a call that throws)", "fail 5 = 0; commit 1 = IllegalState; fail 51 = IllegalArgument; fail 0 = 5");
    }

    private static void failNumbers() {
        String sentence = "Promise 10: IllegalArgumentException: another number.";
        Script.run(sentence + " (0, 1 and 50 are none)", "fail 0 = 0; fail 1 = 0; fail 50 = 1");
        refuseEach(sentence, "fail #", new int[] {-1, 51, -50, 256, MOST, LEAST, LEAST + 1}, "IllegalArgument");
    }

    private static void crash() {
        String sentence = "Promise 11: A crash at once: how many transactions were ACTIVE in memory.";
        Script.run(sentence + " (none)", "crash = 0; count 3 = 1; crash = 0; count 3 = 2; count 2 = 0");
        Script.run(sentence + " (four)", Script.each(1, 4, "begin = #"), "crash = 4; crash = 0; count 3 = 2");
        Script.run(sentence + " (in memory, not on the disk)", "begin = 1; begin = 2; rollback 1 = 1; crash = 1; state 1 = 3; state 2 = 3");
        Script.run(sentence + " (not those that ended)", "begin = 1; begin = 2; begin = 3; commit 1 = 1; rollback 2 = 1; crash = 1");
        Script.run(sentence + " (at once: nothing is written)", Script.join(TWO, "crash = 1; count 2 = 4; version 0 0 0 = 1; count 0 = 9"));
    }

    private static void image() {
        String sentence = "Promise 12: What a transaction begun after a crash at once would read of a record.";
        Script.run(sentence + " (what is on the disk)", Script.join(TWO, "image 0 = 1; read 2 0 = 2; flush = 2; image 0 = 1",
                "commit 2 = 1; image 0 = 2; count 3 = 0"));
        Script.run(sentence + " (four are active)", Script.join(ONE, Script.each(2, 5, "begin = #"), "image 0 = 1"));
        Script.run(sentence + " (the last of ten)", "begin = 1; write 1 0 0 = 1; commit 1 = 2; image 0 = 0; begin = 2",
                Script.each(3, 10, "begin = #; write # 0 # = 1; commit # = 3; image 0 = #"), "begin = 11; write 11 0 1000000 = 1",
                "flush = 2; image 0 = 10; commit 11 = 1; image 0 = 1000000; crash = 1; begin = 12; read 12 0 = 1000000");
        Script.run(sentence + " (looking changes nothing)", Script.join(TWO, "image 0 = 1; count 4 = 2; page 0 = 8; read 2 0 = 2",
                "state 2 = 1; state 3 = 0; count 3 = 0; count 2 = 4"));
    }

    private static void imageRecords() {
        String sentence = "Promise 12: IllegalArgumentException: record not 0 .. 5.";
        Script.run(sentence + " (0 and 5)", "begin = 1; write 1 0 10 = 1; write 1 5 15 = 1; commit 1 = 3; image 0 = 10; image 5 = 15");
        refuseEach(sentence, "image #", NO_RECORDS, "IllegalArgument");
    }

    private static void imageNothing() {
        String sentence = "Promise 12: NoSuchElementException: nothing.";
        Script.refused(sentence + " (EMPTY)", RICH, "image 5", "NoSuchElement");
        Script.run(sentence + " (not COMMITTED)", "begin = 1; write 1 0 1 = 1; image 0 = NoSuchElement; flush = 1; image 0 = NoSuchElement",
                "rollback 1 = 1; flush = 1; image 0 = NoSuchElement");
        Script.run(sentence + " (GONE)", Script.join(ONE, "begin = 2; erase 2 0 = 1; image 0 = 1; flush = 2; image 0 = 1; commit 2 = 1",
                "image 0 = NoSuchElement; sweep = 1; image 0 = NoSuchElement; flush = 2; image 0 = NoSuchElement"));
        Script.run(sentence + " (0 is not nothing)", "begin = 1; write 1 0 0 = 1; commit 1 = 2; image 0 = 0");
    }

    private static void state() {
        Script.run("Promise 13: The state of a transaction in memory.", "state 1 = 0; begin = 1; state 1 = 1; begin = 2; commit 1 = 1",
                "state 1 = 2; rollback 2 = 1; state 2 = 3; state 3 = 0; fail 1 = 0; begin = -9; state 3 = 0; begin = 3; crash = 1; state 3 = 3");
        String sentence = "Promise 13: IllegalArgumentException: not 1 .. 40.";
        Script.run(sentence + " (1 and 40)", "state 1 = 0; state 40 = 0");
        refuseEach(sentence, "state #", NO_TRANSACTIONS, "IllegalArgument");
    }

    private static void versionParts() {
        String sentence = "Promise 14: Of the version at the place k (from 0) in a record's chain: its transaction (0), its value, or -1 "
                + "if GONE (1), the slot it is in, or -1 (2).";
        Script.run(sentence, Script.join(TWO, "version 0 0 0 = 2; version 0 0 1 = 2; version 0 0 2 = -1; version 0 1 0 = 1; version 0 1 1 = 1",
                "version 0 1 2 = 0; erase 2 0 = 1; version 0 0 1 = -1; version 0 0 2 = -1; version 0 0 0 = 2"));
        Script.run(sentence + " (the last slot, the last place)", Script.join(FULL, "version 0 1 2 = 8; version 0 9 2 = 0; version 0 9 0 = 1"));
        Script.run(sentence + " (GONE in a slot)", Script.join(ONE, "begin = 2; erase 2 0 = 1; commit 2 = 3; begin = 3; write 3 0 0 = 1",
                "version 0 0 1 = 0; version 0 1 1 = -1; version 0 1 2 = 1; version 0 2 1 = 1; version 0 2 2 = 0"));
    }

    private static void versionArguments() {
        String sentence = "Promise 14: IllegalArgumentException: record not 0 .. 5, or another what.";
        Script.run(sentence + " (0 and 5, 0 and 2)", "begin = 1; write 1 0 10 = 1; write 1 5 15 = 1; version 0 0 0 = 1; version 0 0 2 = -1",
                "version 5 0 0 = 1; version 5 0 1 = 15; version 5 0 2 = -1");
        refuseEach(sentence, "version # 0 0", NO_RECORDS, "IllegalArgument");
        refuseEach(sentence, "version 0 0 #", new int[] {-1, 3, 4, MOST, LEAST, LEAST + 1}, "IllegalArgument");
        refuseEach(sentence + " (with no such place)", "version 0 -1 #", new int[] {-1, 3}, "IllegalArgument");
    }

    private static void versionPlaces() {
        String sentence = "Promise 14: NoSuchElementException: there is no such version.";
        refuseEach(sentence + " (EMPTY)", "version 5 # 0", new int[] {0, 1, -1, MOST, LEAST}, "NoSuchElement");
        Script.refused(sentence + " (behind the only one)", RICH, "version 1 1 0", "NoSuchElement");
        Script.refused(sentence + " (behind the last)", RICH, "version 0 2 0", "NoSuchElement");
        int[] places = {-1, 10, 11, 15, 16, 1 << 16, MOST, LEAST, LEAST + 1};
        for (int place : places) {
            Script.refused(sentence + " (of ten)", FULL, "version 0 " + place + " 2", "NoSuchElement");
        }
    }

    private static void pageSets() {
        String sentence = "Promise 15: The set (bit p for page p) of the pages that are noted to be written before a page; with 10 + page: "
                + "1 if it is dirty, else 0.";
        Script.run(sentence + " (empty)", Script.each(0, 6, "page # = 0"), Script.each(10, 16, "page # = 0"));
        Script.run(sentence + " (all that can be)", Script.join(ALL_DIRTY, Script.each(10, 16, "page # = 1"), "page 0 = 24; page 1 = 16",
                "page 2 = 32; page 3 = 0; page 4 = 0; page 5 = 0; page 6 = 0"));
        Script.run(sentence + " (of a slot's page)", Script.join(FULL, "commit 2 = 1; sweep = 9; page 5 = 1; page 15 = 1; page 10 = 1"));
        Script.run(sentence + " (of the states)", "begin = 1; rollback 1 = 1; page 16 = 1; page 6 = 0; flush = 1; page 16 = 0");
    }

    private static void pageNumbers() {
        String sentence = "Promise 15: IllegalArgumentException: page not 0 .. 6.";
        Script.run(sentence + " (0 and 6)", "page 0 = 0; page 6 = 0; page 10 = 0; page 16 = 0");
        refuseEach(sentence, "page #", new int[] {-1, 7, 8, 9, 17, 20, 26, -10, -4, MOST, LEAST, LEAST + 10}, "IllegalArgument");
    }

    private static void countFreeAndActive() {
        Script.run("Promise 16: Free slots (0)", "count 0 = 9", FULL[0], FULL[1], "count 0 = 0; commit 2 = 1; sweep = 9; count 0 = 9");
        Script.run("Promise 16: active transactions (1)", "count 1 = 0; begin = 1; count 1 = 1; begin = 2; begin = 3; begin = 4; count 1 = 4",
                "begin = IllegalState; count 1 = 4; commit 1 = 1; count 1 = 3; rollback 2 = 1; count 1 = 2; crash = 2; count 1 = 0");
    }

    private static void countWrittenAndCrashes() {
        Script.run("Promise 16: pages written so far (2)", "count 2 = 0; begin = 1; count 2 = 1; write 1 0 1 = 1; count 2 = 1; fail 2 = 0",
                "commit 1 = -9; count 2 = 2; crash = 0; count 2 = 2");
        Script.run("Promise 16: crashes so far (3)", "count 3 = 0; crash = 0; count 3 = 1; fail 1 = 0; count 3 = 1; begin = -9; count 3 = 2",
                "begin = 1; count 3 = 2; image 0 = NoSuchElement; count 3 = 2; crash = 1; count 3 = 3");
    }

    private static void countDirty() {
        Script.run("Promise 16: dirty pages (4)", "count 4 = 0", Script.each(0, 6, "page 1# = 0"));
        Script.run("Promise 16: dirty pages (4) (all)", Script.join(ALL_DIRTY, "count 4 = 7; flush = 7; count 4 = 0"));
    }

    private static void countNumbers() {
        String sentence = "Promise 16: IllegalArgumentException: another number.";
        Script.run(sentence + " (0 and 4)", "count 0 = 9; count 4 = 0");
        refuseEach(sentence, "count #", new int[] {-1, 5, 6, 10, MOST, LEAST, LEAST + 1}, "IllegalArgument");
    }
}

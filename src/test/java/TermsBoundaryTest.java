/**
 * The boundary cases that the document names under "What it is", "The public face" and "Terms". Each test bears the
 * sentence that it is for.
 */
public final class TermsBoundaryTest {
    /** Record 0 has one committed version, of 1. */
    private static final String[] ONE = {"begin = 1; write 1 0 1 = 1; commit 1 = 2"};

    /** Record 0 has a version of 2, not committed, and that of 1 in slot 0; pages 0 and 3 are dirty, 3 before 0. */
    private static final String[] TWO = Script.join(ONE, "begin = 2; write 2 0 2 = 1");

    /** The chain of record 0 has ten versions, of 10 .. 1, and no slot is free; record 1 has one of 1. */
    private static final String[] FULL = {
        "begin = 1; write 1 0 1 = 1; write 1 1 1 = 1; commit 1 = 2",
        Script.each(2, 10, "begin = #; write # 0 # = 1; commit # = 3"),
        "begin = 11"
    };

    /** 2 is active and needs all that is behind; the version of 11 in record 0 links to slot 8, the last that was free. */
    private static final String[] LAST_SLOT = {
        "begin = 1; write 1 0 1 = 1; write 1 1 1 = 1; commit 1 = 2; begin = 2",
        Script.each(3, 10, "begin = #; write # 0 # = 1; commit # = 3"),
        "begin = 11; count 0 = 1; write 11 0 11 = 1; version 0 1 2 = 8; count 0 = 0"
    };

    public static void main(String[] args) {
        lastCall();
        crashed();
        dirtyPages();
        recordPages();
        slotPages();
        states();
        emptyAndFree();
        values();
        chains();
        writingWithoutOrder();
        writingInOrder();
        writingTheLongestWay();
        writtenPages();
        notingStraight();
        notingByWayOfOthers();
        notingOfOnePage();
        seeing();
        seeingHighNumbers();
        cleaningWithoutLink();
        cleaningWithLink();
        conflict();
        ownVersion();
        emptyRecord();
        leastFreeSlot();
        noRoom();
        notedBefore();
        changedByIt();
        failure();
        crash();
        answersCrashed();
        orderOfTesting();
        throwingChangesNothing();
        cleaningStays();
        Script.end();
    }

    private static void lastCall() {
        String sentence = "An object is used for at most 512 calls after it has been made; what later calls answer is free.";
        Script.run(sentence, ONE[0], "begin = 2", Script.each(5, 510, "read 2 0 = 1"), "write 2 0 2 = 1; commit 2 = 3");
        Script.run(sentence, "begin = 1", Script.each(2, 510, "write 1 0 # = 1"), "read 1 0 = 510; commit 1 = 2");
        Script.run(sentence, Script.each(1, 256, "fail 50 = 0; fail 0 = 50"));
        Script.run(sentence, Script.each(1, 511, "crash = 0"), "count 3 = 511");
    }

    private static void crashed() {
        Script.due("public static final int CRASHED = -9;", RecordVersions.CRASHED == -9);
    }

    private static void dirtyPages() {
        String sentence = "a page is DIRTY if it was changed in memory since it was written or read.";
        Script.run(sentence, "page 10 = 0; begin = 1; write 1 0 1 = 1; page 10 = 1; count 4 = 1; flush = 1; page 10 = 0",
                "count 4 = 0; write 1 0 1 = 1; page 10 = 1; crash = 1; page 10 = 0; count 4 = 1; page 16 = 1");
        Script.run(sentence + " (looking changes nothing)", Script.join(ONE, "begin = 2; read 2 0 = 1; image 0 = 1",
                "version 0 0 0 = 1; state 1 = 2; page 0 = 0; count 0 = 9; fail 3 = 0; count 4 = 0; flush = 0"));
    }

    private static void recordPages() {
        String sentence = "Pages 0 .. 2 hold the RECORDS 0 .. 5, page p 2 p and 2 p + 1;";
        for (int record = 0; record < 6; record++) {
            String write = "begin = 1; write 1 " + record + " 7 = 1; ";
            StringBuilder pages = new StringBuilder();
            for (int page = 0; page < 7; page++) {
                pages.append("page ").append(10 + page).append(" = ").append(page == record / 2 ? "1; " : "0; ");
            }
            Script.run(sentence, write + pages + "commit 1 = 2; crash = 0; version " + record + " 0 1 = 7");
        }
        Script.run(sentence + " (both go to the disk together)", "begin = 1; begin = 2; write 1 2 1 = 1; write 2 3 1 = 1",
                "write 2 4 1 = 1; write 2 1 1 = 1; commit 1 = 2; crash = 1; version 2 0 0 = 1; version 3 0 0 = 2",
                "version 4 0 0 = NoSuchElement; version 1 0 0 = NoSuchElement");
    }

    private static void slotPages() {
        String sentence = "pages 3 .. 5 hold the SLOTS 0 .. 8, page p those from 3 (p - 3) on, three each;";
        String[] lines = ONE;
        for (int slot = 0; slot < 9; slot++) {
            int page = 3 + slot / 3;
            int t = slot + 2;
            lines = Script.join(lines, "begin = " + t + "; write " + t + " 0 1 = 1; version 0 1 2 = " + slot,
                    "page 0 = " + (1 << page) + "; page 13 = " + (page == 3 ? 1 : 0) + "; page 14 = " + (page == 4 ? 1 : 0),
                    "page 15 = " + (page == 5 ? 1 : 0) + "; count 4 = 2; commit " + t + " = 3");
        }
        Script.run(sentence, Script.join(lines, "crash = 0; count 0 = 0", Script.each(1, 9, "version 0 # 1 = 1")));
    }

    private static void states() {
        String sentence = "page 6 holds the STATES of the transactions 1 .. 40: NONE 0 (at first), ACTIVE 1, COMMITTED 2, ROLLED 3.";
        Script.run(sentence, Script.each(1, 40, "state # = 0"), Script.each(1, 38, "begin = #; rollback # = 1"),
                "begin = 39; begin = 40; state 38 = 3; state 39 = 1; state 40 = 1; commit 40 = 1; state 40 = 2; rollback 39 = 1",
                "state 39 = 3; page 16 = 1; crash = 0; state 40 = 2; state 39 = 3; state 1 = 3");
    }

    private static void emptyAndFree() {
        Script.run("A record is EMPTY (at first) or has a VERSION;", Script.each(0, 5, "version # 0 0 = NoSuchElement"),
                "begin = 1", Script.each(0, 5, "read 1 # = NoSuchElement"), "write 1 5 0 = 1; version 5 0 0 = 1",
                "version 4 0 0 = NoSuchElement");
        Script.run("a slot is FREE (at first) or has one.", "count 0 = 9", TWO[0], TWO[1], "count 0 = 8");
    }

    private static void values() {
        String sentence = "A version has a transaction, a value 0 .. 1000000 or that the record is GONE, and a LINK: a slot, or none.";
        Script.run(sentence, "begin = 1; write 1 0 0 = 1; write 1 1 1000000 = 1; write 1 2 1 = 1; erase 1 2 = 1",
                "version 0 0 1 = 0; version 1 0 1 = 1000000; version 2 0 1 = -1; version 2 0 0 = 1; version 0 0 2 = -1",
                "read 1 0 = 0; read 1 1 = 1000000; read 1 2 = NoSuchElement; commit 1 = 3; image 0 = 0; image 1 = 1000000",
                "image 2 = NoSuchElement; crash = 0; version 0 0 1 = 0; version 1 0 1 = 1000000; version 2 0 1 = -1",
                "begin = 2; erase 2 0 = 1; version 0 1 1 = 0; read 2 0 = NoSuchElement");
    }

    private static void chains() {
        String sentence = "The CHAIN of a record is its version, that of the slot to which it links, and so on, "
                + "as far as such slots are not FREE.";
        Script.run(sentence + " (empty)", "version 0 0 0 = NoSuchElement; version 0 1 0 = NoSuchElement");
        Script.run(sentence + " (of one)", Script.join(ONE, "version 0 0 0 = 1; version 0 1 0 = NoSuchElement"));
        Script.run(sentence + " (of ten)", Script.join(FULL, "count 0 = 0", "version 0 0 2 = -1; version 0 0 0 = 10",
                "version 0 1 2 = 8; version 0 1 0 = 9; version 0 8 2 = 1; version 0 9 2 = 0; version 0 9 0 = 1",
                "version 0 9 1 = 1; version 0 10 0 = NoSuchElement; version 1 1 0 = NoSuchElement; read 11 0 = 10"));
        Script.run(sentence + " (read to its tenth version)", "begin = 1; write 1 0 100 = 1; commit 1 = 2; begin = 2",
                Script.each(3, 11, "begin = #; write # 0 # = 1; commit # = 3"), "count 0 = 0; read 2 0 = 100");
        Script.run(sentence + " (no longer after a sweep)", Script.join(FULL, "sweep = 9; version 0 0 0 = 10",
                "version 0 1 0 = NoSuchElement; version 0 9 0 = NoSuchElement; count 0 = 9"));
    }

    private static void writingWithoutOrder() {
        String sentence = "WRITING a page: first all dirty pages that must be written before it are written";
        Script.run(sentence + " (there is none)", "begin = 1; write 1 0 1 = 1; write 1 2 1 = 1; begin = 2; commit 1 = 3");
        // After the sweep page 0 must be written before page 3, but it is not dirty.
        Script.run(sentence + " (it is not dirty)", Script.join(TWO, "commit 2 = 3; begin = 3; write 3 0 3 = 1; flush = 2",
                "sweep = 1; page 3 = 1; page 10 = 0; page 13 = 1; count 2 = 10; flush = 1; count 2 = 11"));
        Script.run(sentence + " (it is dirty)", Script.join(TWO, "page 0 = 8; begin = 3; write 3 1 3 = 1; count 2 = 5",
                "commit 3 = 3; count 2 = 8; page 13 = 0"));
    }

    private static void writingInOrder() {
        String sentence = "(each in this way, by rising numbers), then it goes to the disk as it is;";
        // Pages 3 and 4 must be written before page 0, page 3 with three slots, page 4 with one.
        String[] two = {"begin = 1", Script.each(0, 5, "write 1 # 1 = 1"), "commit 1 = 4; begin = 2; write 2 2 2 = 1",
            "write 2 3 2 = 1; write 2 0 2 = 1; write 2 1 2 = 1; page 0 = 24"};
        Script.run(sentence, Script.join(two, "fail 1 = 0; commit 2 = -9; count 0 = 9; version 0 0 0 = 1"));
        Script.run(sentence, Script.join(two, "fail 2 = 0; commit 2 = -9; count 0 = 6; version 0 0 0 = 1"));
        Script.run(sentence, Script.join(two, "fail 3 = 0; commit 2 = -9; count 0 = 5; version 0 0 0 = 1"));
        Script.run(sentence, Script.join(two, "fail 4 = 0; commit 2 = -9; count 0 = 5; version 0 0 0 = 2; version 2 0 0 = 1"));
        Script.run(sentence, Script.join(two, "fail 5 = 0; commit 2 = -9; version 0 0 0 = 2; version 2 0 0 = 2; state 2 = 3"));
        Script.run(sentence, Script.join(two, "fail 6 = 0; commit 2 = 5; fail 0 = 1; state 2 = 2; version 0 1 2 = 2"));
        // 0 before 3 and 3 before 1: page 1 waits for page 0 by way of page 3.
        String[] way = {"begin = 1; write 1 0 1 = 1; write 1 2 1 = 1; commit 1 = 3; begin = 2; write 2 0 2 = 1; commit 2 = 3",
            "sweep = 1; begin = 3; write 3 2 3 = 1; page 1 = 8; page 3 = 1; begin = 4; write 4 3 4 = 1"};
        Script.run(sentence, Script.join(way, "fail 1 = 0; commit 4 = -9; version 0 1 0 = 1; count 0 = 8"));
        Script.run(sentence, Script.join(way, "fail 2 = 0; commit 4 = -9; version 0 1 0 = NoSuchElement; version 2 0 0 = 1"));
        Script.run(sentence, Script.join(way, "fail 3 = 0; commit 4 = -9; version 2 0 0 = 1; version 3 0 0 = NoSuchElement"));
        Script.run(sentence, Script.join(way, "commit 4 = 4; image 2 = 1; image 3 = 4; count 4 = 0"));
    }

    /** The longest way that there can be: the pages 5, 2, 4, 1, 3, 0, each before the next. */
    private static void writingTheLongestWay() {
        String sentence = "(each in this way, by rising numbers), then it goes to the disk as it is;";
        // 2 began before 1 committed, so that its refused writes clean and do nothing else.
        String[] way = {"begin = 1; begin = 2", Script.each(0, 5, "write 1 # # = 1"), "commit 1 = 4; begin = 3; write 3 2 3 = 1",
            "begin = 4; write 4 1 4 = 1; commit 4 = 3; begin = 5; write 5 1 5 = 1; commit 5 = 3; write 3 4 3 = 1",
            "begin = 6; write 6 1 6 = 1; commit 6 = 3; begin = 7; write 7 1 7 = 1; commit 7 = 3; version 2 1 2 = 0",
            "version 4 1 2 = 3; count 0 = 3; flush = 2; rollback 3 = 1; begin = 8; write 8 5 8 = 1; page 2 = 32",
            "write 2 4 9 = UnsupportedOperation; page 4 = 4; write 8 3 8 = 1; page 1 = 16; write 2 2 9 = UnsupportedOperation",
            "page 3 = 2; write 8 0 8 = 1; page 0 = 8; count 4 = 6"};
        for (int k = 1; k <= 6; k++) {
            Script.run(sentence + " (a failure at " + k + " of 6)", Script.join(way, "fail " + k + " = 0; flush = -9",
                    "count 0 = " + (k > 1 ? 2 : 3) + "; version 4 0 0 = " + (k > 2 ? 1 : 3) + "; version 5 0 0 = " + (k > 2 ? 8 : 1),
                    "version 3 0 0 = " + (k > 4 ? 8 : 1) + "; version 2 0 0 = " + (k > 4 ? 1 : 3) + "; version 0 0 0 = 1",
                    Script.each(0, 6, "page # = 0"), Script.each(2, 5, "image # = #"), "image 0 = 0; image 1 = 7"));
        }
        Script.run(sentence + " (without one)", Script.join(way, "flush = 6; count 4 = 0", Script.each(0, 6, "page # = 0"),
                "commit 8 = 1; image 0 = 8; image 3 = 8; image 5 = 8; image 2 = 2; image 4 = 4; crash = 1; version 0 1 1 = 0"));
    }

    private static void writtenPages() {
        String sentence = "it is not dirty then, and nothing is noted any more of which it is the earlier one.";
        Script.run(sentence, Script.join(TWO, "page 0 = 8; flush = 2; page 0 = 0; page 10 = 0; page 13 = 0"));
        Script.run(sentence + " (but of which it is the later one)", Script.join(TWO, "commit 2 = 3; begin = 3",
                "write 3 0 3 = 1; flush = 2; sweep = 1; page 3 = 1; flush = 1; page 13 = 0; page 3 = 1; write 3 1 5 = 1",
                "commit 3 = 2; page 3 = 0"));
        Script.run(sentence + " (of all pages)", "begin = 1; write 1 0 1 = 1; write 1 2 1 = 1; write 1 4 1 = 1; commit 1 = 4",
                "begin = 2; write 2 0 2 = 1; begin = 3; write 3 2 3 = 1; begin = 4; write 4 4 4 = 1; page 0 = 8; page 1 = 8",
                "page 2 = 8; commit 2 = 3; page 0 = 0; page 1 = 0; page 2 = 0; count 4 = 2");
    }

    private static void notingStraight() {
        String sentence = "TO NOTE that x must be written before y: if y must be written before x, straight or by way of "
                + "others, y is written at once;";
        Script.run(sentence + " (it must not)", Script.join(TWO, "count 2 = 4; write 2 1 1 = 1; count 2 = 4; page 0 = 8"));
        // Cleaning notes 0 before 3, so that page 3 is written; the change then notes 3 before 0, so that page 0 is.
        Script.run(sentence + " (straight)", Script.join(TWO, "rollback 2 = 1; count 2 = 4; sweep = 0; count 2 = 5",
                "page 0 = 0; page 3 = 1; page 10 = 1; page 13 = 1; begin = 3; count 2 = 6; write 3 0 3 = 1; count 2 = 7",
                "page 0 = 8; page 3 = 0; page 10 = 1; page 13 = 1"));
        Script.run(sentence + " (one that is not dirty)", Script.join(TWO, "commit 2 = 3; begin = 3; write 3 0 3 = 1",
                "flush = 2; sweep = 1; flush = 1; page 3 = 1; commit 3 = 1; begin = 4; count 4 = 0; count 2 = 13",
                "write 4 0 4 = 1; count 2 = 14; page 3 = 0; page 0 = 8"));
    }

    private static void notingByWayOfOthers() {
        String sentence = "if y must be written before x, straight or by way of others, y is written at once; then it is noted";
        // 2 began before 1 committed: its refused writes clean and do nothing else. They note 0 before 4 and 1 before 3;
        // the write of 4 in between notes 4 before 1. The last one uses slot 0: 3 before 0, though 0 is before 3 by
        // way of 4 and 1.
        String[] way = {"begin = 1; begin = 2", Script.each(0, 5, "write 1 # 1 = 1"), "commit 1 = 4; begin = 3",
            "write 3 3 3 = 1; write 3 4 3 = 1; write 3 5 3 = 1; write 3 0 3 = 1; version 0 1 2 = 3; flush = 5; rollback 3 = 1",
            "begin = 4; write 2 0 9 = UnsupportedOperation; page 4 = 1; write 4 2 4 = 1; version 2 1 2 = 3; page 1 = 16",
            "write 2 3 9 = UnsupportedOperation; page 3 = 2; count 2 = 13"};
        Script.run(sentence, Script.join(way, "write 4 1 4 = 1; version 1 1 2 = 0; count 2 = 14; page 0 = 8; page 4 = 0",
                "page 1 = 16; page 3 = 2; page 10 = 1"));
        Script.run(sentence + " (with a failure)", Script.join(way, "fail 1 = 0; write 4 1 4 = -9; version 0 0 0 = 3"));
        Script.run(sentence + " (the page goes as it was before)", Script.join(way, "write 4 1 4 = 1; crash = 2",
                "version 0 0 0 = 1; version 1 0 0 = 1; version 2 0 0 = 1; version 3 0 0 = 3; count 0 = 5"));
    }

    private static void notingOfOnePage() {
        String sentence = "it is noted, but not if x is y.";
        // The first one is in slot 1, the one behind it in slot 0, both on page 3.
        Script.run(sentence, Script.join(TWO, "commit 2 = 3; begin = 3; write 3 0 3 = 1; version 0 1 2 = 1; count 2 = 8",
                "flush = 2; sweep = 1; page 3 = 1; count 2 = 10; count 4 = 1"));
    }

    private static void seeing() {
        String sentence = "A transaction T SEES a version of its own, and one of a transaction that was COMMITTED when T began.";
        Script.run(sentence + " (its own)", "begin = 1; write 1 0 1 = 1; read 1 0 = 1");
        Script.run(sentence + " (just before)", Script.join(ONE, "begin = 2; read 2 0 = 1; write 2 0 2 = 1"));
        Script.run(sentence + " (just after)", "begin = 1; write 1 0 1 = 1; begin = 2; commit 1 = 2; read 2 0 = NoSuchElement",
                "write 2 0 2 = UnsupportedOperation; begin = 3; read 3 0 = 1");
        Script.run(sentence + " (never)", Script.join(TWO, "begin = 3; rollback 2 = 1; read 3 0 = 1; begin = 4; read 4 0 = 1"));
        Script.run(sentence + " (a number that a crash gave back)", Script.join(ONE, "fail 1 = 0; begin = -9; state 2 = 0",
                "begin = 2; read 2 0 = 1"));
    }

    /** Sets of forty need more than 32 bits. */
    private static void seeingHighNumbers() {
        String sentence = "A transaction T SEES a version of its own, and one of a transaction that was COMMITTED when T began.";
        Script.run(sentence + " (1 and 33 are two)", Script.join(ONE, Script.each(2, 32, "begin = #; rollback # = 1"),
                "begin = 33; begin = 34; write 33 0 33 = 1; read 34 0 = 1; read 33 0 = 33; write 34 0 34 = UnsupportedOperation",
                "commit 33 = 3; read 34 0 = 1; begin = 35; read 35 0 = 33; sweep = 0; commit 34 = 1; sweep = 1; read 35 0 = 33"));
        Script.run(sentence + " (8 and 40 are two)", Script.each(1, 7, "begin = #; commit # = 1"),
                "begin = 8; write 8 5 8 = 1; rollback 8 = 1", Script.each(9, 38, "begin = #; commit # = 1"),
                "begin = 39; begin = 40; write 40 0 40 = 1; read 39 5 = NoSuchElement; read 39 0 = NoSuchElement",
                "commit 40 = 2; image 0 = 40; image 5 = NoSuchElement; read 39 0 = NoSuchElement; sweep = 0",
                "version 5 0 0 = NoSuchElement; version 0 0 0 = 40");
    }

    private static void cleaningWithoutLink() {
        String sentence = "A record is CLEANED: as long as its version is of a ROLLED transaction: without a link it becomes "
                + "EMPTY (page changed);";
        Script.run(sentence, "begin = 1; write 1 0 1 = 1; flush = 1; rollback 1 = 1; version 0 0 0 = 1; sweep = 0; page 10 = 1",
                "version 0 0 0 = NoSuchElement; page 0 = 0");
        Script.run(sentence + " (ACTIVE)", "begin = 1; write 1 0 1 = 1; flush = 1; sweep = 0; version 0 0 0 = 1; page 10 = 0");
        Script.run(sentence + " (COMMITTED)", Script.join(ONE, "sweep = 0; version 0 0 0 = 1; page 10 = 0"));
        Script.run(sentence + " (EMPTY)", "sweep = 0; count 4 = 0; version 0 0 0 = NoSuchElement");
        Script.run(sentence + " (ROLLED by a crash)", "begin = 1; write 1 0 1 = 1; flush = 1; crash = 1; sweep = 0; page 10 = 1",
                "version 0 0 0 = NoSuchElement");
    }

    private static void cleaningWithLink() {
        String sentence = "else, with the slot s of the link, it is noted that the record's page must be written before that "
                + "of s; then the record has the version of s, and s is FREE (both pages changed).";
        Script.run(sentence, Script.join(TWO, "flush = 2; rollback 2 = 1; page 10 = 0; page 13 = 0; page 3 = 0; sweep = 0",
                "page 3 = 1; page 10 = 1; page 13 = 1; version 0 0 0 = 1; version 0 0 1 = 1; version 0 1 0 = NoSuchElement",
                "count 0 = 9"));
        Script.run(sentence + " (the link of s goes along)", Script.join(TWO, "commit 2 = 3; begin = 3; begin = 4",
                "write 3 0 3 = 1; version 0 2 2 = 0; rollback 3 = 1; write 4 0 4 = 1; version 0 0 0 = 4; version 0 1 0 = 2",
                "version 0 1 2 = 1; version 0 2 0 = 1; version 0 2 2 = 0; count 0 = 7"));
        Script.run(sentence + " (the last slot)", Script.join(LAST_SLOT, "flush = 2; rollback 11 = 1; page 5 = 0; sweep = 0",
                "count 0 = 1; page 5 = 1; page 10 = 1; page 15 = 1; version 0 0 0 = 10; version 0 1 2 = 7; version 0 9 0 = NoSuchElement"));
    }

    private static void conflict() {
        String sentence = "if it has a version that T does not see, that is a CONFLICT, and nothing more is done;";
        String[] active = {"begin = 1; begin = 2; write 1 0 1 = 1; flush = 1"};
        Script.refused(sentence, active, "write 2 0 2", "UnsupportedOperation");
        Script.refused(sentence, Script.join(active, "commit 1 = 1"), "write 2 0 2", "UnsupportedOperation");
        Script.refused(sentence, Script.join(TWO, "begin = 3; flush = 2"), "write 3 0 3", "UnsupportedOperation");
        Script.refused(sentence, Script.join(TWO, "begin = 3; commit 2 = 3"), "erase 3 0", "UnsupportedOperation");
        Script.run(sentence + " (one that T sees)", Script.join(TWO, "commit 2 = 3; begin = 3; write 3 0 3 = 1"));
        Script.run(sentence + " (the other record of the page)", Script.join(active, "write 2 1 2 = 1"));
    }

    private static void ownVersion() {
        String sentence = "if its version is T's own, that has the new value;";
        Script.run(sentence, Script.join(TWO, "flush = 2; write 2 0 1000000 = 1; version 0 0 1 = 1000000; version 0 1 1 = 1",
                "version 0 1 2 = 0; count 0 = 8; page 10 = 1; page 13 = 0; page 0 = 0; erase 2 0 = 1; version 0 0 1 = -1",
                "version 0 0 0 = 2; version 0 1 1 = 1; count 0 = 8; write 2 0 0 = 1; version 0 0 1 = 0; count 0 = 8"));
        Script.run(sentence + " (no slot is free)", Script.join(FULL, "write 11 5 1 = 1; write 11 5 2 = 1; erase 11 5 = 1",
                "version 5 0 1 = -1; count 0 = 0"));
    }

    private static void emptyRecord() {
        String sentence = "if it is EMPTY, it has a version of T without a link;";
        Script.run(sentence, "begin = 1; write 1 5 3 = 1; version 5 0 0 = 1; version 5 0 1 = 3; version 5 0 2 = -1",
                "version 5 1 0 = NoSuchElement; count 0 = 9; page 2 = 0; page 12 = 1; count 4 = 1");
        Script.run(sentence + " (no slot is free)", Script.join(FULL, "write 11 5 3 = 1; version 5 0 0 = 11; count 4 = 1"));
        Script.run(sentence + " (GONE is not EMPTY)", Script.join(ONE, "begin = 2; erase 2 0 = 1; commit 2 = 3; begin = 3",
                "write 3 0 3 = 1; version 0 1 1 = -1; version 0 1 2 = 1; version 0 2 1 = 1; count 0 = 7"));
        Script.run(sentence + " (EMPTY by cleaning)", "begin = 1; write 1 0 1 = 1; rollback 1 = 1; begin = 2; write 2 0 2 = 1",
                "version 0 0 0 = 2; version 0 1 0 = NoSuchElement; count 0 = 9");
    }

    private static void leastFreeSlot() {
        String sentence = "else the least free slot gets its version";
        Script.run(sentence + " (0, of all)", Script.join(TWO, "version 0 1 2 = 0; version 0 1 0 = 1; count 0 = 8"));
        // Record 0 gives back slot 0 when it is swept; record 2 keeps slot 1.
        Script.run(sentence + " (one in between)", "begin = 1; write 1 0 1 = 1; write 1 2 1 = 1; write 1 4 1 = 1; commit 1 = 4",
                "begin = 2; write 2 0 2 = 1; commit 2 = 3; begin = 3; write 3 2 3 = 1; version 2 1 2 = 1; sweep = 1",
                "write 3 4 3 = 1; version 4 1 2 = 0; begin = 4; write 4 0 4 = 1; version 0 1 2 = 2; count 0 = 6");
        Script.run(sentence + " (8, the last)", Script.join(FULL, "version 0 1 2 = 8; version 0 1 0 = 9; count 0 = 0"));
        Script.run(sentence + " (8, if it is the only one)", Script.join(LAST_SLOT, "rollback 11 = 1; sweep = 0; count 0 = 1",
                "begin = 12; write 12 1 12 = 1; version 1 1 2 = 8; page 0 = 32; count 0 = 0; write 12 0 0 = IndexOutOfBounds"));
    }

    private static void noRoom() {
        String sentence = "(there is none: NO ROOM, and nothing more is done)";
        Script.refused(sentence, FULL, "write 11 0 11", "IndexOutOfBounds");
        Script.refused(sentence, FULL, "erase 11 0", "IndexOutOfBounds");
        Script.refused(sentence, FULL, "write 11 1 11", "IndexOutOfBounds");
        Script.refused(sentence, Script.join(FULL, "begin = 12; write 12 2 12 = 1; fail 1 = 0"), "write 11 1 11", "IndexOutOfBounds");
        // Cleaning gives back the slot behind the rolled version just in time.
        Script.run(sentence + " (but for cleaning)", Script.join(LAST_SLOT, "begin = 12; rollback 11 = 1",
                "write 12 1 12 = IndexOutOfBounds; write 12 0 12 = 1; version 0 1 2 = 8; version 0 1 0 = 10; count 0 = 0"));
    }

    private static void notedBefore() {
        String sentence = "it being noted before that the slot's page must be written before the record's, and the record "
                + "has a version of T that links to the slot.";
        Script.run(sentence, Script.join(TWO, "page 0 = 8; page 3 = 0; version 0 0 0 = 2; version 0 0 1 = 2; version 0 1 2 = 0"));
        // Page 0 is written by the noting, before the version of 3 is in it.
        Script.run(sentence + " (a page written by noting)", Script.join(TWO, "rollback 2 = 1; begin = 3; write 3 0 3 = 1",
                "count 2 = 7; crash = 1; version 0 0 0 = 1; version 0 1 0 = NoSuchElement; count 0 = 8; image 0 = 1"));
    }

    private static void changedByIt() {
        String sentence = "The record's page, and that of the slot, are changed by T.";
        Script.run(sentence, Script.join(TWO, "page 10 = 1; page 13 = 1; count 4 = 2; commit 2 = 3; count 4 = 0"));
        Script.run(sentence + " (without a slot)", "begin = 1; write 1 0 1 = 1; count 4 = 1; page 10 = 1; commit 1 = 2");
        Script.run(sentence + " (by a refused call none)", "begin = 1; begin = 2; write 1 0 1 = 1",
                "write 2 0 2 = UnsupportedOperation; erase 2 0 = NoSuchElement; commit 2 = 1; page 10 = 1");
        Script.run(sentence + " (by cleaning none)", "begin = 1; begin = 2; write 1 0 1 = 1; commit 1 = 2; begin = 3",
                "write 3 0 3 = 1; flush = 2; rollback 3 = 1; write 2 0 2 = UnsupportedOperation; page 10 = 1; page 13 = 1",
                "commit 2 = 1; page 10 = 1; page 13 = 1; page 16 = 0");
    }

    private static void failure() {
        String sentence = "A FAILURE set for the k-th writing of a page: that one does not happen, but a CRASH:";
        String[] three = {"begin = 1; write 1 0 1 = 1; write 1 2 1 = 1; write 1 4 1 = 1"};
        String[] pages = {"version 0 0 0 = NoSuchElement", "version 2 0 0 = NoSuchElement", "version 4 0 0 = NoSuchElement"};
        for (int k = 1; k <= 3; k++) {
            String[] lines = Script.join(three, "fail " + k + " = 0; flush = -9; count 2 = " + k + "; count 3 = 1; fail 0 = 0");
            for (int page = 0; page < 3; page++) {
                lines = Script.join(lines, page < k - 1 ? "version " + 2 * page + " 0 0 = 1" : pages[page]);
            }
            Script.run(sentence + " (" + k + " of 3)", lines);
        }
        Script.run(sentence + " (4, after 3)", Script.join(three, "fail 4 = 0; flush = 3; count 3 = 0; begin = -9; count 3 = 1",
                "begin = 2; count 3 = 1"));
        Script.run(sentence + " (a page written by another's turn counts)", Script.join(TWO, "fail 3 = 0; commit 2 = -9",
                "version 0 0 0 = 2; version 0 1 0 = 1; state 2 = 3"));
    }

    private static void crash() {
        String sentence = "what is in memory is lost and read again from the disk, nothing is noted, no page is dirty, but then "
                + "all ACTIVE states become ROLLED in memory (page 6 being dirty if there was one).";
        Script.run(sentence, Script.join(TWO, "begin = 3; page 0 = 8; count 4 = 2; crash = 2; version 0 0 0 = 1; count 0 = 9",
                Script.each(0, 6, "page # = 0"), Script.each(10, 15, "page # = 0"), "page 16 = 1; count 4 = 1; state 1 = 2",
                "state 2 = 3; state 3 = 3; state 4 = 0; count 1 = 0; flush = 1; count 4 = 0"));
        Script.run(sentence + " (of slots' pages too)", Script.join(FULL, "sweep = 9; write 11 2 1 = 1; page 3 = 1; page 4 = 1",
                "page 5 = 1; count 4 = 5; crash = 1", Script.each(0, 6, "page # = 0"), "count 4 = 1; count 0 = 0; version 0 9 0 = 1"));
        Script.run(sentence + " (the last number)", Script.each(1, 39, "begin = #; commit # = 1"), "begin = 40; crash = 1",
                "state 40 = 3; page 16 = 1; count 1 = 0; state 39 = 2");
        Script.run(sentence + " (there was none)", Script.join(ONE, "crash = 0; page 16 = 0; count 4 = 0; state 1 = 2"));
        Script.run(sentence + " (a new object)", "crash = 0; page 16 = 0; count 4 = 0; count 3 = 1; count 0 = 9; begin = 1");
        Script.run(sentence + " (active on the disk alone)", "begin = 1; rollback 1 = 1; crash = 0; page 16 = 1; state 1 = 3");
        Script.run(sentence + " (the rolled states are lost again)", "begin = 1; crash = 1; state 1 = 3; crash = 0; state 1 = 3",
                "page 16 = 1; flush = 1; crash = 0; page 16 = 0; state 1 = 3");
        Script.run(sentence + " (four)", Script.each(1, 4, "begin = #"), "crash = 4; count 1 = 0", Script.each(1, 4, "state # = 3"),
                Script.each(5, 8, "begin = #"), "begin = IllegalState");
    }

    private static void answersCrashed() {
        String sentence = "A call in which this happens answers CRASHED, whatever it would else.";
        String[] rolled = Script.join(TWO, "rollback 2 = 1; begin = 3");
        Script.run(sentence + " (begin)", "fail 1 = 0; begin = -9");
        Script.run(sentence + " (write)", Script.join(rolled, "fail 1 = 0; write 3 0 3 = -9; count 3 = 1; state 3 = 3"));
        Script.run(sentence + " (write, the note of the slot)", Script.join(rolled, "fail 2 = 0; write 3 0 3 = -9; count 2 = 6"));
        Script.run(sentence + " (erase)", Script.join(rolled, "fail 1 = 0; erase 3 0 = -9; count 3 = 1; state 3 = 3"));
        Script.run(sentence + " (commit, a page of its own)", "begin = 1; write 1 0 1 = 1; fail 1 = 0; commit 1 = -9; state 1 = 3");
        Script.run(sentence + " (commit, the states)", "begin = 1; fail 1 = 0; commit 1 = -9; state 1 = 3; count 2 = 1");
        Script.run(sentence + " (sweep)", Script.join(rolled, "fail 1 = 0; sweep = -9; count 3 = 1; state 3 = 3"));
        Script.run(sentence + " (flush)", "begin = 1; rollback 1 = 1; fail 1 = 0; flush = -9; count 3 = 1");
        Script.run(sentence + " (a conflict)", "begin = 1; begin = 2; write 1 0 1 = 1; commit 1 = 2; begin = 3; write 3 0 3 = 1",
                "rollback 3 = 1; fail 1 = 0; write 2 0 2 = -9; count 3 = 1");
        Script.run(sentence + " (not rollback, which writes none)", "begin = 1; fail 1 = 0; rollback 1 = 1; count 3 = 0; fail 0 = 1");
        Script.run(sentence + " (not crash, which fails nothing)", "begin = 1; fail 1 = 0; crash = 1; count 3 = 1");
    }

    private static void orderOfTesting() {
        String sentence = "What is thrown is told in the order of testing;";
        String[] gone = Script.join(FULL, "begin = 12; write 12 2 5 = 1");
        Script.run(sentence + " (read)", Script.join(gone, "read 13 6 = IllegalArgument; read 13 2 = IllegalState",
                "read 11 2 = NoSuchElement"));
        Script.run(sentence + " (write)", Script.join(gone, "write 13 6 0 = IllegalArgument; write 13 0 -1 = IllegalArgument",
                "write 13 2 0 = IllegalState; write 13 1 0 = IllegalState; write 11 2 0 = UnsupportedOperation",
                "write 11 1 0 = IndexOutOfBounds"));
        Script.run(sentence + " (write, a conflict with no room)", "begin = 1; write 1 0 1 = 1; commit 1 = 2; begin = 2",
                Script.each(3, 11, "begin = #; write # 0 # = 1; commit # = 3"), "count 0 = 0; write 2 0 2 = UnsupportedOperation",
                "erase 2 0 = UnsupportedOperation; begin = 12; write 12 0 2 = IndexOutOfBounds; erase 12 0 = IndexOutOfBounds");
        Script.run(sentence + " (erase)", Script.join(gone, "erase 13 6 = IllegalArgument; erase 13 2 = IllegalState",
                "erase 11 2 = NoSuchElement; erase 11 3 = NoSuchElement; erase 11 1 = IndexOutOfBounds"));
        Script.run(sentence + " (image, version)", "image 6 = IllegalArgument; version 6 0 0 = IllegalArgument",
                "version 0 0 3 = IllegalArgument; version 0 -1 3 = IllegalArgument; version 0 0 2 = NoSuchElement");
    }

    private static void throwingChangesNothing() {
        String sentence = "a call that throws changes nothing, but by cleaning.";
        // 1 is committed, 2 and 3 are active, 4 is rolled, 5 is none; pages are dirty and noted, a failure is set.
        String[] rich = {"begin = 1; write 1 0 1 = 1; write 1 1 1 = 1; write 1 2 1 = 1; commit 1 = 3; begin = 2; begin = 3",
            "write 2 0 2 = 1; write 3 2 3 = 1; write 3 3 3 = 1; begin = 4; write 4 1 4 = 1; rollback 4 = 1; fail 30 = 0"};
        String[][] calls = {
            {"read 2 6", "IllegalArgument"}, {"read 4 1", "IllegalState"}, {"read 2 4", "NoSuchElement"},
            {"write 2 -1 0", "IllegalArgument"}, {"write 2 0 1000001", "IllegalArgument"}, {"write 4 1 0", "IllegalState"},
            {"write 5 1 0", "IllegalState"}, {"write 2 2 0", "UnsupportedOperation"}, {"write 3 0 0", "UnsupportedOperation"},
            {"erase 2 6", "IllegalArgument"}, {"erase 4 1", "IllegalState"}, {"erase 2 5", "NoSuchElement"},
            {"erase 2 3", "NoSuchElement"}, {"erase 3 0", "UnsupportedOperation"}, {"commit 1", "IllegalState"},
            {"commit 4", "IllegalState"}, {"commit 5", "IllegalState"}, {"rollback 1", "IllegalState"},
            {"rollback 4", "IllegalState"}, {"rollback 5", "IllegalState"}, {"fail 51", "IllegalArgument"},
            {"fail -1", "IllegalArgument"}, {"image 6", "IllegalArgument"}, {"image 4", "NoSuchElement"},
            {"state 41", "IllegalArgument"}, {"version 0 2 0", "NoSuchElement"}, {"version 0 0 3", "IllegalArgument"},
            {"page 7", "IllegalArgument"}, {"count 5", "IllegalArgument"}
        };
        for (String[] call : calls) {
            Script.refused(sentence, rich, call[0], call[1]);
        }
        Script.refused(sentence, Script.join(rich, "begin = 5; begin = 6"), "begin", "IllegalState");
    }

    private static void cleaningStays() {
        String sentence = "a call that throws changes nothing, but by cleaning.";
        String[] rolled = {"begin = 1; begin = 2; write 1 0 1 = 1; commit 1 = 2; begin = 3; write 3 0 3 = 1; flush = 2",
            "rollback 3 = 1"};
        Script.run(sentence + " (a conflict)", Script.join(rolled, "write 2 0 2 = UnsupportedOperation; version 0 0 0 = 1",
                "version 0 1 0 = NoSuchElement; count 0 = 9; page 3 = 1; page 10 = 1; page 13 = 1; count 2 = 7"));
        Script.refused(sentence + " (what read would throw comes before it)", rolled, "erase 2 0", "NoSuchElement");
        Script.refused(sentence + " (read cleans nothing)", rolled, "read 2 0", "NoSuchElement");
        Script.refused(sentence + " (nor does what is tested before)", rolled, "write 3 0 3", "IllegalState");
        Script.refused(sentence + " (nor does what is tested before)", rolled, "write 2 0 1000001", "IllegalArgument");
    }
}

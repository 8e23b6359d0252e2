import java.util.Arrays;

/** The promises of the document one by one, with answers found by hand. */
public final class PromiseTest {
    public static void main(String[] args) {
        newObject();
        begin();
        read();
        seeing();
        write();
        changing();
        cleaning();
        noRoom();
        erase();
        commit();
        rollback();
        sweep();
        sweepInChains();
        flush();
        order();
        fail();
        crash();
        crashAtEveryWriting();
        image();
        state();
        version();
        page();
        count();
        Script.end();
    }

    private static void newObject() {
        Script.run("promise 1", Script.each(1, 40, "state # = 0"), Script.each(0, 5, "version # 0 0 = NoSuchElement"),
                Script.each(0, 5, "image # = NoSuchElement"), Script.each(0, 6, "page # = 0"), Script.each(10, 16, "page # = 0"),
                "count 0 = 9; count 1 = 0; count 2 = 0; count 3 = 0; count 4 = 0",
                "sweep = 0; flush = 0; fail 0 = 0; crash = 0; begin = 1");
        Script.due("CRASHED is -9", RecordVersions.CRASHED == -9);
        RecordVersions one = new RecordVersions();
        one.begin();
        Script.due("objects share nothing", new RecordVersions().begin() == 1 && one.begin() == 2);
    }

    private static void begin() {
        Script.run("promise 2: the least unused number, written at once",
                "begin = 1; state 1 = 1; count 1 = 1; count 2 = 1; count 4 = 0; page 16 = 0",
                "rollback 1 = 1; page 16 = 1; begin = 2; page 16 = 0; crash = 1; state 1 = 3; state 2 = 3; begin = 3");
        Script.run("promise 2: four at most", Script.each(1, 4, "begin = #"), "begin = IllegalState; count 2 = 4",
                "state 5 = 0; commit 2 = 1; begin = 5; begin = IllegalState; rollback 1 = 1; begin = 6");
        Script.run("promise 2: forty numbers", Script.each(1, 40, "begin = #; rollback # = 1"), "begin = IllegalState",
                "crash = 0; begin = IllegalState; state 40 = 3");
        Script.run("promise 2: a failure", "fail 1 = 0; begin = -9; state 1 = 0; count 1 = 0; count 2 = 0; count 3 = 1",
                "page 16 = 0; fail 0 = 0; begin = 1; write 1 0 7 = 1; read 1 0 = 7");
    }

    private static void read() {
        Script.run("promise 3: what is thrown", "read 0 -1 = IllegalArgument; read 0 6 = IllegalArgument",
                "read 1 0 = IllegalState; read 0 0 = IllegalState; read -1 0 = IllegalState; read 40 0 = IllegalState",
                "read 41 0 = IllegalState; read 2147483647 0 = IllegalState; read -2147483648 5 = IllegalState",
                "read 0 2147483647 = IllegalArgument; read 0 -2147483648 = IllegalArgument",
                "begin = 1; read 1 0 = NoSuchElement; read 1 5 = NoSuchElement; read 1 6 = IllegalArgument",
                "write 1 5 3 = 1; read 1 5 = 3; commit 1 = 2; read 1 5 = IllegalState; read 1 6 = IllegalArgument",
                "begin = 2; rollback 2 = 1; read 2 5 = IllegalState");
        Script.run("promise 3: gone", "begin = 1; write 1 2 4 = 1; commit 1 = 2; begin = 2; begin = 3; erase 2 2 = 1",
                "read 2 2 = NoSuchElement; read 3 2 = 4; commit 2 = 3; read 3 2 = 4; begin = 4; read 4 2 = NoSuchElement");
        Script.run("promise 3: reading does not clean", "begin = 1; write 1 0 1 = 1; commit 1 = 2; begin = 2",
                "write 2 0 2 = 1; rollback 2 = 1; begin = 3; read 3 0 = 1; version 0 0 0 = 2; count 0 = 8");
    }

    private static void seeing() {
        Script.run("terms: seeing", "begin = 1; begin = 2; write 1 0 10 = 1; read 1 0 = 10; read 2 0 = NoSuchElement",
                "commit 1 = 2; read 2 0 = NoSuchElement; begin = 3; read 3 0 = 10; write 3 0 30 = 1; read 3 0 = 30",
                "begin = 4; read 4 0 = 10; commit 3 = 3; read 4 0 = 10; begin = 5; read 5 0 = 30; write 5 0 50 = 1",
                "read 5 0 = 50; read 4 0 = 10; read 2 0 = NoSuchElement; rollback 5 = 1; begin = 6; read 6 0 = 30",
                "read 4 0 = 10");
        Script.run("terms: it is the moment of beginning that counts, not the number", "begin = 1; begin = 2; begin = 3",
                "write 3 1 9 = 1; commit 3 = 2; read 1 1 = NoSuchElement; write 1 1 8 = UnsupportedOperation",
                "commit 1 = 1; begin = 4; read 4 1 = 9; write 4 1 7 = 1; commit 4 = 3; read 2 1 = NoSuchElement");
    }

    private static void write() {
        Script.run("promise 4: what is thrown", "write 1 6 0 = IllegalArgument; write 1 -1 0 = IllegalArgument",
                "write 1 0 -1 = IllegalArgument; write 1 0 1000001 = IllegalArgument; write 1 0 0 = IllegalState",
                "write 1 2147483647 0 = IllegalArgument; write 1 0 -2147483648 = IllegalArgument",
                "write 41 0 0 = IllegalState; write 0 0 0 = IllegalState; write -1 0 0 = IllegalState; begin = 1",
                "write 1 0 0 = 1; write 1 5 1000000 = 1; read 1 0 = 0; read 1 5 = 1000000; write 1 6 0 = IllegalArgument",
                "write 1 0 1000001 = IllegalArgument; read 1 0 = 0; begin = 2; write 2 0 5 = UnsupportedOperation",
                "write 2 0 -1 = IllegalArgument; rollback 2 = 1; write 2 0 5 = IllegalState");
        Script.run("promise 4: a conflict with one who committed later", "begin = 1; begin = 2; write 1 0 1 = 1",
                "commit 1 = 2; write 2 0 2 = UnsupportedOperation; page 10 = 0; version 0 0 0 = 1; write 2 1 2 = 1",
                "commit 2 = 2; begin = 3; write 3 0 3 = 1; write 3 1 3 = 1; commit 3 = 3");
    }

    private static void changing() {
        Script.run("terms: a change", "begin = 1; write 1 2 5 = 1; page 11 = 1; page 1 = 0; count 0 = 9; count 2 = 1",
                "version 2 0 0 = 1; version 2 0 1 = 5; version 2 0 2 = -1; write 1 2 6 = 1; version 2 0 1 = 6",
                "version 2 1 0 = NoSuchElement; count 0 = 9; commit 1 = 2; begin = 2; write 2 2 7 = 1; count 0 = 8",
                "version 2 0 0 = 2; version 2 0 1 = 7; version 2 0 2 = -1; version 2 1 0 = 1; version 2 1 1 = 6",
                "version 2 1 2 = 0; page 1 = 8; page 3 = 0; page 11 = 1; page 13 = 1; count 4 = 2; write 2 2 8 = 1",
                "count 0 = 8; version 2 0 1 = 8; version 2 1 1 = 6; commit 2 = 3; count 4 = 0; page 1 = 0");
        Script.run("terms: the value is new even if it is the same", "begin = 1; write 1 0 5 = 1; flush = 1",
                "page 10 = 0; write 1 0 5 = 1; page 10 = 1; commit 1 = 2");
        Script.run("terms: the least free slot", "begin = 1", Script.each(0, 5, "write 1 # 1 = 1"), "commit 1 = 4; begin = 2",
                "write 2 5 2 = 1; write 2 3 2 = 1; write 2 1 2 = 1; write 2 0 2 = 1; version 5 1 2 = 0",
                "version 3 1 2 = 1; version 1 1 2 = 2; version 0 1 2 = 3; page 0 = 24; page 1 = 8; page 2 = 8",
                "rollback 2 = 1; begin = 3; write 3 1 3 = 1; version 1 1 2 = 2; write 3 3 3 = 1; version 3 1 2 = 1",
                "write 3 2 3 = 1; version 2 1 2 = 4; write 3 4 3 = 1; version 4 1 2 = 5; count 0 = 3");
    }

    private static void cleaning() {
        Script.run("terms: cleaning one without a link", "begin = 1; write 1 4 1 = 1; rollback 1 = 1; flush = 2",
                "version 4 0 0 = 1; begin = 2; write 2 4 2 = 1; version 4 0 0 = 2; version 4 1 0 = NoSuchElement",
                "rollback 2 = 1; flush = 2; page 12 = 0; sweep = 0; page 12 = 1; version 4 0 0 = NoSuchElement");
        Script.run("terms: cleaning goes by a link, and notes the order", "begin = 1; write 1 0 1 = 1; commit 1 = 2",
                "begin = 2; write 2 0 2 = 1; flush = 2; rollback 2 = 1; page 10 = 0; page 13 = 0; sweep = 0",
                "version 0 0 0 = 1; version 0 1 0 = NoSuchElement; count 0 = 9; page 3 = 1; page 0 = 0; page 10 = 1",
                "page 13 = 1; count 2 = 6; crash = 0; version 0 0 0 = 2; version 0 1 0 = 1");
        Script.run("terms: cleaning stays though the call throws", "begin = 1; begin = 2; write 1 0 1 = 1; commit 1 = 2",
                "begin = 3; write 3 0 3 = 1; flush = 2; rollback 3 = 1; erase 2 0 = NoSuchElement; version 0 0 0 = 3",
                "page 10 = 0; write 2 0 2 = UnsupportedOperation; version 0 0 0 = 1; count 0 = 9; page 10 = 1",
                "page 3 = 1; flush = 3; commit 2 = 1");
        // Slot 3 becomes free by cleaning, but the change goes to slot 0, which is on another page.
        Script.run("terms: a page that is cleaned is not one that the transaction changed", "begin = 1",
                Script.each(0, 3, "write 1 # 1 = 1"), "commit 1 = 3; begin = 2", Script.each(1, 3, "write 2 # 2 = 1"), "commit 2 = 4",
                "begin = 3; write 3 0 3 = 1; version 0 1 2 = 3; sweep = 3; flush = 4; rollback 3 = 1; begin = 4",
                "write 4 0 4 = 1; version 0 1 2 = 0; page 14 = 1; page 4 = 1; commit 4 = 3; page 14 = 1; flush = 1");
        Script.run("terms: a failure in cleaning", "begin = 1; write 1 0 1 = 1; commit 1 = 2; begin = 2; write 2 0 2 = 1",
                "rollback 2 = 1; begin = 3; fail 1 = 0; write 3 0 3 = -9; state 3 = 3; version 0 0 0 = 1; count 0 = 9");
        Script.run("terms: a crash comes before a conflict", "begin = 1; begin = 2; write 1 0 1 = 1; commit 1 = 2",
                "begin = 3; write 3 0 3 = 1; rollback 3 = 1; fail 1 = 0; write 2 0 2 = -9; count 3 = 1; state 2 = 3");
    }

    private static final String[] FULL = {
        "begin = 1; write 1 0 1 = 1; write 1 1 1 = 1; commit 1 = 2",
        Script.each(2, 10, "begin = #; write # 0 # = 1; commit # = 3"),
        "count 0 = 0; begin = 11"
    };

    private static void noRoom() {
        Script.run("terms: no room", Script.join(FULL, "write 11 0 3 = IndexOutOfBounds; write 11 1 3 = IndexOutOfBounds",
                "erase 11 0 = IndexOutOfBounds; count 4 = 0; version 0 0 0 = 10; write 11 2 3 = 1; write 11 2 4 = 1",
                "read 11 0 = 10; begin = 12; write 12 2 1 = UnsupportedOperation; erase 12 0 = IndexOutOfBounds",
                "erase 12 2 = NoSuchElement; version 0 0 2 = -1; version 0 1 2 = 8; version 0 5 2 = 4; version 0 9 2 = 0",
                "version 0 10 0 = NoSuchElement; version 0 9 0 = 1; version 0 9 1 = 1; version 0 8 0 = 2"));
    }

    private static void erase() {
        Script.run("promise 5: what is thrown", "erase 1 6 = IllegalArgument; erase 1 -1 = IllegalArgument",
                "erase 1 0 = IllegalState; erase 0 0 = IllegalState; erase 41 0 = IllegalState; begin = 1",
                "erase 1 0 = NoSuchElement; begin = 2; write 2 0 4 = 1; erase 1 0 = NoSuchElement; commit 2 = 2",
                "erase 1 0 = NoSuchElement; begin = 3; begin = 4; write 3 0 5 = 1; erase 4 0 = UnsupportedOperation",
                "commit 3 = 3; erase 4 0 = UnsupportedOperation; erase 3 0 = IllegalState; commit 4 = 1");
        Script.run("promise 5: gone, and written again", "begin = 1; write 1 3 9 = 1; erase 1 3 = 1; version 3 0 1 = -1",
                "read 1 3 = NoSuchElement; erase 1 3 = NoSuchElement; write 1 3 8 = 1; read 1 3 = 8; commit 1 = 2",
                "begin = 2; erase 2 3 = 1; version 3 0 1 = -1; version 3 0 0 = 2; version 3 1 1 = 8; page 1 = 8",
                "count 0 = 8; image 3 = 8; commit 2 = 3; image 3 = NoSuchElement; begin = 3; write 3 3 7 = 1",
                "version 3 1 1 = -1; version 3 2 1 = 8; rollback 3 = 1; begin = 4; read 4 3 = NoSuchElement",
                "erase 4 3 = NoSuchElement; version 3 0 0 = 3");
    }

    private static void commit() {
        Script.run("promise 6: what is thrown", "commit 1 = IllegalState; commit 0 = IllegalState; commit -1 = IllegalState",
                "commit 40 = IllegalState; commit 41 = IllegalState; begin = 1; commit 1 = 1; commit 1 = IllegalState",
                "begin = 2; rollback 2 = 1; commit 2 = IllegalState; state 1 = 2; state 2 = 3");
        Script.run("promise 6: its own pages alone", "begin = 1; begin = 2; write 1 0 1 = 1; write 1 4 1 = 1; write 2 2 2 = 1",
                "commit 1 = 3; page 10 = 0; page 11 = 1; page 12 = 0; page 16 = 0; image 4 = 1; image 2 = NoSuchElement",
                "commit 2 = 2; image 2 = 2; count 2 = 7");
        Script.run("promise 6: a page that it changed and another made dirty again", "begin = 1; begin = 2",
                "write 1 0 1 = 1; flush = 1; write 2 1 2 = 1; commit 1 = 2; page 10 = 0; commit 2 = 1");
        Script.run("promise 6: so with the page of a slot", "begin = 1; write 1 0 1 = 1; write 1 2 1 = 1; commit 1 = 3",
                "begin = 2; begin = 3; write 2 0 2 = 1; flush = 2; write 3 2 3 = 1; page 1 = 8; commit 2 = 2; page 13 = 0",
                "page 11 = 1; page 1 = 0; commit 3 = 2");
        Script.run("promise 6: pages that were written since are not written again", "begin = 1; write 1 0 1 = 1",
                "flush = 1; commit 1 = 1; image 0 = 1");
        Script.run("promise 6: a dirty page of the states is written once", "begin = 1; begin = 2; rollback 1 = 1",
                "write 2 0 2 = 1; commit 2 = 2; page 16 = 0");
        Script.run("promise 6: earlier pages of others go along", "begin = 1; write 1 0 1 = 1; write 1 1 1 = 1; commit 1 = 2",
                "begin = 2; begin = 3; write 2 0 2 = 1; write 3 1 3 = 1; page 0 = 8; page 13 = 1; commit 2 = 3",
                "page 10 = 0; page 13 = 0; image 0 = 2; image 1 = 1; commit 3 = 1; image 1 = 3");
        Script.run("promise 6: failures", "begin = 1; write 1 0 1 = 1; write 1 2 1 = 1; fail 3 = 0; commit 1 = -9",
                "state 1 = 3; image 0 = NoSuchElement; version 0 0 0 = 1; version 2 0 0 = 1; begin = 2; write 2 0 2 = 1",
                "fail 4 = 0; commit 2 = 2; fail 0 = 2; image 0 = 2");
    }

    private static void rollback() {
        Script.run("promise 7", "rollback 1 = IllegalState; rollback 0 = IllegalState; rollback 41 = IllegalState",
                "rollback -5 = IllegalState; begin = 1; write 1 0 5 = 1; rollback 1 = 1; state 1 = 3; page 16 = 1",
                "count 1 = 0; count 2 = 1; version 0 0 0 = 1; rollback 1 = IllegalState; begin = 2; commit 2 = 1",
                "rollback 2 = IllegalState; state 2 = 2; begin = 3; read 3 0 = NoSuchElement; write 3 0 6 = 1");
    }

    private static void sweep() {
        String[] twice = {"begin = 1; write 1 0 1 = 1; commit 1 = 2; begin = 2; write 2 0 2 = 1; commit 2 = 3"};
        Script.run("promise 8: nobody is active", Script.join(twice, "sweep = 1; version 0 0 0 = 2; version 0 1 0 = NoSuchElement",
                "count 0 = 9; page 3 = 1; page 0 = 0; page 10 = 1; page 13 = 1; count 4 = 2; sweep = 0; flush = 2",
                "sweep = 0; count 4 = 0; image 0 = 2"));
        Script.run("promise 8: one who began before needs the older", "begin = 1; write 1 0 1 = 1; commit 1 = 2; begin = 2",
                "begin = 3; write 3 0 3 = 1; commit 3 = 3; sweep = 0; count 4 = 0; read 2 0 = 1; begin = 4; write 4 0 4 = 1",
                "commit 4 = 3; sweep = 0; read 2 0 = 1; commit 2 = 1; sweep = 2; version 0 1 0 = NoSuchElement");
        Script.run("promise 8: gone", "begin = 1; write 1 0 1 = 1; write 1 1 1 = 1; commit 1 = 2; begin = 2; erase 2 0 = 1",
                "begin = 3; commit 2 = 3; sweep = 0; version 0 0 1 = -1; commit 3 = 1; sweep = 1",
                "version 0 0 0 = NoSuchElement; version 1 0 0 = 1; page 3 = 1; count 0 = 9; flush = 2; sweep = 0; count 4 = 0");
        Script.run("promise 8: gone without a link", "begin = 1; write 1 0 1 = 1; erase 1 0 = 1; sweep = 0; version 0 0 1 = -1",
                "commit 1 = 2; begin = 2; sweep = 0; version 0 0 0 = NoSuchElement; page 10 = 1; write 2 0 3 = 1; count 0 = 9");
        Script.run("promise 8: cleaning is not counted", "begin = 1; write 1 0 1 = 1; write 1 5 1 = 1; commit 1 = 3; begin = 2",
                "write 2 0 2 = 1; write 2 5 2 = 1; rollback 2 = 1; sweep = 0; count 0 = 9; version 0 0 0 = 1; version 5 0 0 = 1");
        Script.run("promise 8: all records are swept", "begin = 1", Script.each(0, 5, "write 1 # 1 = 1"), "commit 1 = 4; begin = 2",
                Script.each(0, 5, "write 2 # 2 = 1"), "commit 2 = 6; sweep = 6; count 0 = 9; page 3 = 3; page 4 = 6; page 5 = 0",
                "flush = 5; page 3 = 0; page 4 = 0");
        Script.run("promise 8: a full store", Script.join(FULL, "sweep = 9; count 0 = 9; page 3 = 1; page 4 = 1; page 5 = 1",
                "page 10 = 1; write 11 0 11 = 1; count 2 = 41; page 10 = 1; page 0 = 8; page 3 = 0; page 4 = 0; commit 11 = 3"));
        Script.run("promise 8: a failure", "begin = 1; write 1 0 1 = 1; commit 1 = 2; begin = 2; write 2 0 2 = 1",
                "rollback 2 = 1; fail 1 = 0; sweep = -9; count 3 = 1; version 0 0 0 = 1; sweep = 0");
    }

    private static void sweepInChains() {
        String[] three = {"begin = 1; write 1 0 1 = 1; commit 1 = 2; begin = 2; write 2 0 2 = 1; commit 2 = 3",
            "begin = 3; write 3 0 3 = 1; flush = 2; count 4 = 0; version 0 2 2 = 0"};
        Script.run("promise 8: behind one that is not the record's own", Script.join(three, "sweep = 1; version 0 0 0 = 3",
                "version 0 1 0 = 2; version 0 1 2 = 1; version 0 2 0 = NoSuchElement; page 3 = 1; page 10 = 0; page 13 = 1",
                "flush = 1; page 3 = 1; write 3 1 5 = 1; begin = 4; write 4 2 6 = 1; commit 4 = 2; page 10 = 1"));
        Script.run("promise 8: a clean page that is noted is written to break a circle", Script.join(three, "sweep = 1; flush = 1",
                "page 3 = 1; count 4 = 0; count 2 = 11; commit 3 = 1; begin = 4; write 4 0 4 = 1; count 2 = 14; page 3 = 0",
                "page 0 = 8; version 0 1 2 = 0; version 0 2 2 = 1; commit 4 = 3"));
        Script.run("promise 8: gone behind another stays", "begin = 1; write 1 0 1 = 1; commit 1 = 2; begin = 2; erase 2 0 = 1",
                "commit 2 = 3; begin = 3; write 3 0 3 = 1; sweep = 1; version 0 1 1 = -1; version 0 2 0 = NoSuchElement",
                "rollback 3 = 1; sweep = 0; version 0 0 0 = NoSuchElement; count 0 = 9");
        // The chain of record 0 lies in the slots 3, 2, 1, 0: the page of the first one is another than that of the rest.
        Script.run("promise 8: both pages are noted", "begin = 1; write 1 0 1 = 1; commit 1 = 2",
                Script.each(2, 4, "begin = #; write # 0 # = 1; commit # = 3"), "begin = 5; write 5 0 5 = 1; version 0 1 2 = 3",
                "flush = 2; sweep = 3; page 3 = 17; page 4 = 0; page 13 = 1; page 14 = 1; page 10 = 0; count 0 = 8",
                "version 0 1 0 = 4; version 0 2 0 = NoSuchElement; flush = 2; page 3 = 1");
    }

    private static void flush() {
        Script.run("promise 9", "flush = 0; begin = 1; flush = 0; write 1 0 1 = 1; write 1 5 1 = 1; rollback 1 = 1; count 4 = 3",
                "flush = 3; count 4 = 0; flush = 0; count 2 = 4; crash = 0; state 1 = 3; page 16 = 0; version 5 0 0 = 1");
        Script.run("promise 9: with an order", "begin = 1; write 1 0 1 = 1; commit 1 = 2; begin = 2; write 2 0 2 = 1",
                "flush = 2; count 4 = 0; page 0 = 0; image 0 = 1; crash = 1; version 0 0 0 = 2; version 0 1 0 = 1");
        Script.run("promise 9: a failure", "begin = 1; write 1 0 1 = 1; write 1 2 1 = 1; fail 2 = 0; flush = -9; count 2 = 2",
                "count 3 = 1; version 0 0 0 = 1; version 2 0 0 = NoSuchElement; state 1 = 3; fail 0 = 0");
    }

    private static void order() {
        String[] change = {"begin = 1; write 1 0 1 = 1; commit 1 = 2; begin = 2; write 2 0 2 = 1"};
        Script.run("terms: the earlier page goes first", Script.join(change, "fail 2 = 0; flush = -9; count 0 = 8; version 0 0 0 = 1",
                "version 0 1 0 = NoSuchElement; count 2 = 5; sweep = 0; count 0 = 8"));
        Script.run("terms: of the earlier pages the lower goes first", "begin = 1", Script.each(0, 5, "write 1 # 1 = 1"),
                "commit 1 = 4; begin = 2; write 2 2 2 = 1; write 2 3 2 = 1; write 2 0 2 = 1; write 2 1 2 = 1; page 0 = 24",
                "page 1 = 8; fail 2 = 0; commit 2 = -9; count 0 = 6; version 0 0 0 = 1; version 2 0 0 = 1");
        Script.run("terms: one page after the other", "begin = 1", Script.each(0, 5, "write 1 # 1 = 1"),
                "commit 1 = 4; begin = 2; write 2 2 2 = 1; write 2 3 2 = 1; write 2 4 2 = 1; write 2 0 2 = 1; page 0 = 16",
                "write 2 1 2 = 1; page 0 = 16; page 2 = 8; page 1 = 8; fail 3 = 0; commit 2 = -9",
                "version 0 0 0 = 2; version 0 1 2 = 3; version 2 0 0 = 1; count 0 = 7");
        Script.run("terms: a note that would close a circle writes first", Script.join(change, "page 0 = 8; rollback 2 = 1",
                "count 2 = 4; begin = 3; count 2 = 5; write 3 0 3 = 1; count 2 = 7; page 0 = 8; page 3 = 0; page 10 = 1",
                "page 13 = 1; version 0 1 2 = 0; version 0 1 0 = 1; crash = 1; version 0 0 0 = 1; count 0 = 8"));
        // 0 before 3 (swept), 3 before 1 (record 2 uses slot 0): 1 must wait for 0 by way of 3.
        String[] way = {"begin = 1; write 1 0 1 = 1; write 1 2 1 = 1; commit 1 = 3; begin = 2; write 2 0 2 = 1; commit 2 = 3",
            "sweep = 1; page 3 = 1; begin = 3; write 3 2 3 = 1; page 1 = 8; page 3 = 1; count 2 = 9"};
        Script.run("terms: by way of others", Script.join(way, "commit 3 = 4; page 1 = 0; page 3 = 0; count 4 = 0; image 2 = 3"));
        for (int k = 1; k <= 4; k++) {
            Script.run("terms: by way of others, failure " + k, Script.join(way, "fail " + k + " = 0; commit 3 = -9",
                    "image 0 = 2; image 2 = 1; count 0 = 8; version 0 1 0 = " + (k == 1 ? 1 : "NoSuchElement"),
                    "version 2 0 0 = " + (k <= 3 ? 1 : 3)));
        }
    }

    private static void fail() {
        Script.run("promise 10: what is thrown", "fail -1 = IllegalArgument; fail 51 = IllegalArgument; fail 50 = 0",
                "fail 2147483647 = IllegalArgument; fail -2147483648 = IllegalArgument; fail 1 = 50; fail 51 = IllegalArgument",
                "fail 0 = 1; fail 0 = 0");
        Script.run("promise 10: what is left", "fail 5 = 0; begin = 1; write 1 0 1 = 1; fail 5 = 4; flush = 1; commit 1 = 1",
                "fail 2 = 3; begin = 2; begin = -9; count 3 = 1; fail 7 = 0; crash = 0; fail 0 = 7; begin = 3");
        Script.run("promise 10: one failure is one crash", "fail 1 = 0; begin = -9; begin = 1; write 1 0 1 = 1; commit 1 = 2");
        Script.run("promise 10: the fiftieth", "fail 50 = 0", Script.each(1, 24, "begin = #; commit # = 1"), "begin = 25; count 2 = 49",
                "commit 25 = -9; count 2 = 49; state 25 = 3; state 24 = 2; begin = 26; commit 26 = 1");
    }

    private static void crash() {
        Script.run("promise 11: what is lost", "begin = 1; write 1 0 1 = 1; commit 1 = 2; begin = 2; write 2 0 2 = 1; begin = 3",
                "write 3 1 3 = 1; count 4 = 2; page 0 = 8; crash = 2; count 3 = 1; count 1 = 0; page 0 = 0; page 10 = 0",
                "page 13 = 0; page 16 = 1; count 4 = 1; state 1 = 2; state 2 = 3; state 3 = 3; state 4 = 0; version 0 0 0 = 1",
                "version 1 0 0 = NoSuchElement; count 0 = 9; count 2 = 5; read 2 0 = IllegalState; begin = 4; read 4 0 = 1");
        Script.run("promise 11: nobody is active", "begin = 1; commit 1 = 1; crash = 0; page 16 = 0; count 3 = 1; crash = 0",
                "count 3 = 2; count 4 = 0");
        Script.run("promise 11: active on the disk alone", "begin = 1; rollback 1 = 1; crash = 0; state 1 = 3; page 16 = 1",
                "flush = 1; crash = 0; page 16 = 0; state 1 = 3");
        Script.run("promise 11: what was written stays", "begin = 1; write 1 0 1 = 1; flush = 1; crash = 1; version 0 0 0 = 1",
                "state 1 = 3; begin = 2; read 2 0 = NoSuchElement; write 2 0 5 = 1; version 0 0 0 = 2; count 0 = 9; commit 2 = 2");
    }

    /** A run of calls is cut off at each of its writings: what was committed is there, and the store goes on. */
    private static void crashAtEveryWriting() {
        for (int k = 1; k <= 50; k++) {
            RecordVersions store = new RecordVersions();
            int[] kept = new int[6];
            Arrays.fill(kept, -1);
            store.fail(k);
            boolean crashed = false;
            for (int round = 1; round <= 12 && !crashed; round++) {
                int t = store.begin();
                crashed = t == RecordVersions.CRASHED;
                int[] wanted = kept.clone();
                for (int r = round % 3; r < 6 && !crashed; r += 2) {
                    wanted[r] = 100 * round + r;
                    crashed = store.write(t, r, wanted[r]) == RecordVersions.CRASHED;
                }
                if (!crashed && round % 4 == 0) {
                    store.rollback(t);
                } else if (!crashed) {
                    crashed = store.commit(t) == RecordVersions.CRASHED;
                    kept = crashed ? kept : wanted;
                }
                crashed = crashed || round % 2 == 0 && store.sweep() == RecordVersions.CRASHED;
            }
            Script.due("there was a crash at writing " + k, crashed);
            for (int r = 0; r < 6; r++) {
                String want = kept[r] < 0 ? "NoSuchElement" : Integer.toString(kept[r]);
                Script.due("image " + r + " after a crash at " + k, Script.answer(store, "image " + r).equals(want));
            }
            int t = store.begin();
            Script.due("the store goes on after a crash at " + k, store.write(t, 0, 1) == 1 && store.commit(t) > 0);
        }
    }

    private static void image() {
        Script.run("promise 12", "image -1 = IllegalArgument; image 6 = IllegalArgument; image 5 = NoSuchElement; begin = 1",
                "write 1 0 1 = 1; image 0 = NoSuchElement; flush = 1; image 0 = NoSuchElement; commit 1 = 1; image 0 = 1",
                "begin = 2; write 2 0 2 = 1; image 0 = 1; flush = 2; image 0 = 1; commit 2 = 1; image 0 = 2; begin = 3",
                "erase 3 0 = 1; image 0 = 2; commit 3 = 3; image 0 = NoSuchElement; sweep = 2; image 0 = NoSuchElement",
                "begin = 4; write 4 0 0 = 1; image 0 = NoSuchElement; commit 4 = 2; image 0 = 0; count 3 = 0",
                "image 2147483647 = IllegalArgument; image -2147483648 = IllegalArgument");
        Script.run("promise 12: with no number left", "begin = 1; write 1 0 7 = 1; commit 1 = 2",
                Script.each(2, 40, "begin = #; rollback # = 1"), "image 0 = 7; image 1 = NoSuchElement");
    }

    private static void state() {
        Script.run("promise 13", "state 0 = IllegalArgument; state 41 = IllegalArgument; state -1 = IllegalArgument",
                "state 2147483647 = IllegalArgument; state 1 = 0; state 40 = 0; begin = 1; state 1 = 1; begin = 2; begin = 3",
                "commit 1 = 1; rollback 2 = 1; state 1 = 2; state 2 = 3; state 3 = 1; state 4 = 0; crash = 1; state 3 = 3");
    }

    private static void version() {
        Script.run("promise 14", "version -1 0 0 = IllegalArgument; version 6 0 0 = IllegalArgument",
                "version 0 0 3 = IllegalArgument; version 0 0 -1 = IllegalArgument; version 0 0 0 = NoSuchElement",
                "version 0 -1 3 = IllegalArgument; begin = 1; write 1 0 1 = 1; version 0 -1 0 = NoSuchElement",
                "version 0 1 0 = NoSuchElement; version 0 2147483647 0 = NoSuchElement; version 6 0 3 = IllegalArgument",
                "version 0 -2147483648 0 = NoSuchElement; version 0 0 0 = 1; version 0 0 1 = 1; version 0 0 2 = -1",
                "commit 1 = 2; begin = 2; erase 2 0 = 1; version 0 0 0 = 2; version 0 0 1 = -1; version 0 0 2 = -1",
                "version 0 1 0 = 1; version 0 1 1 = 1; version 0 1 2 = 0; version 0 2 0 = NoSuchElement; version 0 0 3 = IllegalArgument");
    }

    private static void page() {
        Script.run("promise 15", Script.each(7, 9, "page # = IllegalArgument"), "page -1 = IllegalArgument; page 17 = IllegalArgument",
                "page 2147483647 = IllegalArgument; page -2147483648 = IllegalArgument; begin = 1; write 1 5 1 = 1; page 12 = 1",
                "page 2 = 0; commit 1 = 2; page 12 = 0; begin = 2; write 2 5 2 = 1; page 2 = 8; page 12 = 1; page 13 = 1",
                "page 3 = 0; rollback 2 = 1; page 16 = 1; page 6 = 0");
    }

    private static void count() {
        Script.run("promise 16", "count -1 = IllegalArgument; count 5 = IllegalArgument; count 2147483647 = IllegalArgument",
                "begin = 1; begin = 2; count 1 = 2; count 2 = 2; write 1 0 1 = 1; write 2 2 1 = 1; count 4 = 2; commit 1 = 2",
                "count 4 = 1; count 2 = 4; count 1 = 1; begin = 3; write 3 0 3 = 1; count 0 = 8; count 4 = 3; crash = 2; count 0 = 9",
                "count 3 = 1; count 2 = 5; count 1 = 0; count 4 = 1; fail 1 = 0; begin = -9; count 2 = 5; count 3 = 2");
    }
}

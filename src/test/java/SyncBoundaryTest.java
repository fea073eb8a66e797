/** Promise 4, sentence by sentence where one names a boundary case. */
public final class SyncBoundaryTest {
    private SyncBoundaryTest() { }

    public static void main(String[] args) {
        openPageWithoutRecords();
        openPageWithOneRecord();
        openPageWithoutRecordsThatAreNeeded();
        noPageIsOpen();
        nextPageComesWithTheNextRecord();
        nextPageCannotCome();
        inOrder();
        mostWrites();
        listIsEmptyThen();
        fullPage();
        check();
        pageIsSafe();
        Checks.end("SyncBoundaryTest");
    }

    // Promise 4, Terms: "the OPEN PAGE is CLOSED, if it has RECORDS": PAGE 1 without one stays OPEN
    private static void openPageWithoutRecords() {
        State.dueUnchanged("sync of nothing", x -> { }, x -> x.sync().due(0).sync().due(0));
        new Journal().sync().due(0).dueTotals(0, 1, 1, 1, 0, 0, 1, 1, 0, 2).append(1).due(1).record(0, 3).due(1);
    }

    // Promise 4, Terms: "the OPEN PAGE is CLOSED, if it has RECORDS": one is enough
    private static void openPageWithOneRecord() {
        Journal x = new Journal().append(200).due(1).sync().due(1).dueTotals(1, 1, 2, 0, 0, 0, 1, 1, 0, 2);
        x.dueBlock(2, Checks.page(1, 1, 1, 200, 0)).dueRecord(0, 1, 200, 0, 1);
    }

    // Promise 4, Terms: "if it has RECORDS": those below KEPT are on it, too
    private static void openPageWithoutRecordsThatAreNeeded() {
        Journal x = new Journal().append(5).due(1).append(6).due(2).keep(3).due(true).total(0).due(0).total(4).due(2);
        x.sync().due(2).dueBlock(2, Checks.page(1, 1, 2, 5, 0, 6, 0)).dueBlock(0, Checks.head(2, 1, 3));
        x.dueTotals(0, 3, 3, 0, 0, 0, 1, 2, 0, 2);
    }

    // Promise 4: "how many WRITES were done": none, if no PAGE is OPEN and none waits
    private static void noPageIsOpen() {
        State.dueUnchanged("sync again", x -> x.appendPages(1, 2).sync().due(2), x -> x.sync().due(0));
        State.dueUnchanged("sync behind a CRASH", x -> x.appendPages(1, 2).crash(1, 0).due(1), x -> x.sync().due(0));
    }

    // Promise 4, Terms: "(then the next PAGE comes to be OPEN with the next RECORD, ..)"
    private static void nextPageComesWithTheNextRecord() {
        Journal x = new Journal().append(1).due(1).sync().due(1).total(3).due(0).total(4).due(0).total(9).due(2);
        x.append(2).due(2).total(3).due(2).total(4).due(1).total(9).due(3).record(1, 3).due(2).record(0, 3).due(1);
    }

    // Promise 4, Terms: ".. with the next RECORD, if it can": it can't behind the 30th
    private static void nextPageCannotCome() {
        Journal x = new Journal().appendPages(1, 29).sync().due(29).append(30).due(30).sync().due(1);
        x.append(31).due(0).total(3).due(0).total(9).due(31).sync().due(0);
    }

    // Promise 4, Terms: "all WRITES are done, in order": of two for one BLOCK, the later one stays
    private static void inOrder() {
        Journal x = new Journal().appendEmpty(1, 5).keepEach(2, 5).sync().due(5);
        x.dueBlock(0, Checks.head(4, 1, 4)).dueBlock(1, Checks.head(5, 1, 5)).total(6).due(1).total(7).due(5);
    }

    // Promise 4: "how many WRITES were done": 40 that wait, and the OPEN PAGE's behind them
    private static void mostWrites() {
        Journal x = new Journal().appendEmpty(1, 41).keepEach(2, 40).total(5).due(40).sync().due(41);
        x.disk(3, 3).due(2).disk(3, 7).due(26).disk(3, 8).due(16).dueTotals(2, 40, 42, 0, 0, 0, 2, 40, 0, 3);
        x.crash(0, 0).due(2);
        x = new Journal().appendEmpty(1, 41).sync().due(2).keepEach(2, 41).total(5).due(40).sync().due(40);
        x.dueBlock(0, Checks.head(40, 2, 40)).dueBlock(1, Checks.head(41, 2, 41));
    }

    // Promise 4 and 10: none waits behind a SYNC
    private static void listIsEmptyThen() {
        Journal x = new Journal().appendPages(1, 3).keep(2).due(true).write(2, 0).due(0).sync().due(4);
        x.write(0, 0).due(Checks.NO_SUCH_ELEMENT).total(5).due(0).keep(3).due(true).write(0, 0).due(1);
        x.write(1, 0).due(Checks.NO_SUCH_ELEMENT);
    }

    // Promise 4, Terms: "u8 how many RECORDS, then these: u8 KIND, u8 n, n bytes (all within bytes 9 .. 59)": up to 59
    private static void fullPage() {
        Journal x = new Journal().appendFilled(255, 40, 0xFF).due(1).appendFilled(254, 7, 0xFF).due(2).sync().due(1);
        int[] bytes = new int[51];
        java.util.Arrays.fill(bytes, 0xFF);
        System.arraycopy(new int[] {255, 40}, 0, bytes, 0, 2);
        System.arraycopy(new int[] {254, 7}, 0, bytes, 42, 2);
        x.dueBlock(2, Checks.page(1, 1, 2, bytes)).dueBlock(3, new byte[64]);
        x.crash(0, 0).due(2).record(1, 10).due(255).record(1, 11).due(Checks.NO_SUCH_ELEMENT);
    }

    // Promise 4, Terms: "Bytes 60 .. 63 of each are u32 its CHECK: the CRC-32 of bytes 0 .. 59 (.. all bits turned ..)"
    private static void check() {
        // written out, as the CRC-32 of other tools tells it, and not reckoned by the tests' own hands
        new Journal().disk(1, 60).due(0xED).disk(1, 61).due(0x38).disk(1, 62).due(0xC4).disk(1, 63).due(0x3E);
    }

    // Promise 4, "records that are safe once they are written": a CRASH right behind leaves all that SYNC wrote
    private static void pageIsSafe() {
        for (int last = 1; last <= 30; last++) {
            Journal x = new Journal().appendPages(1, last).sync().due(last).crash(0, 0).due(last);
            x.record(last - 1, 0).due(last).record(last - 1, 43).due(last).record(last, 0).due(Checks.NO_SUCH_ELEMENT);
        }
    }
}

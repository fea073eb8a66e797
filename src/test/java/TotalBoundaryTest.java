/** Promise 11, sentence by sentence where one names a boundary case. */
public final class TotalBoundaryTest {
    private static final int MOST = 1000000;

    private TotalBoundaryTest() { }

    public static void main(String[] args) {
        anotherWhat();
        recordsInMemory();
        keptAndNext();
        openPage();
        recordsOfTheOpenPage();
        writesThatWait();
        oldestWrittenAsAWhole();
        oldestThatWasFound();
        greatestTurn();
        crashes();
        nextPage();
        Checks.end("TotalBoundaryTest");
    }

    // Promise 11: "NONE for another what": 9 is the last one that is told
    private static void anotherWhat() {
        int[] wrong = {-1, 10, 11, 256, Integer.MIN_VALUE, Integer.MAX_VALUE};
        for (int what : wrong) {
            new Journal().total(what).due(RoundJournal.NONE).appendPages(1, 3).total(what).due(RoundJournal.NONE);
        }
        new Journal().total(0).due(0).total(9).due(2);
    }

    // Promise 11: "What 0: RECORDS in memory": none, one, all, none again
    private static void recordsInMemory() {
        Journal x = new Journal().total(0).due(0).append(1).due(1).total(0).due(1).append(0).total(0).due(1);
        x.sync().due(1).total(0).due(1).keep(2).due(true).total(0).due(0).append(1).due(2).total(0).due(1);
        x.crash(0, 0).due(1).total(0).due(1).record(0, 0).due(1);
    }

    // Promise 11: "1: KEPT, 2: the next RECORD's number": equal where there is no RECORD; up to the greatest number
    private static void keptAndNext() {
        new Journal().total(1).due(1).total(2).due(1).append(1).due(1).total(1).due(1).total(2).due(2)
            .keep(2).due(true).total(1).due(2).total(2).due(2);
        new Journal().forge(0, Checks.head(2, 1, MOST)).crash(0, 0).due(0).total(1).due(MOST).total(2).due(MOST)
            .append(1).due(MOST).total(1).due(MOST).total(2).due(MOST + 1);
    }

    // Promise 11: "3: the OPEN PAGE (0 if none is)"
    private static void openPage() {
        Journal x = new Journal().total(3).due(1).append(1).due(1).total(3).due(1).sync().due(1).total(3).due(0);
        x.append(1).due(2).total(3).due(2).crash(0, 0).due(1).total(3).due(0).append(1).due(2).total(3).due(2);
        new Journal().appendPages(1, 30).total(3).due(30).appendFilled(1, 40, 1).due(0).total(3).due(30)
            .sync().due(30).total(3).due(0).append(1).due(0).total(3).due(0);
    }

    // Promise 11: "4: its RECORDS": none at first, 25 at most, those below KEPT too, none if no PAGE is OPEN
    private static void recordsOfTheOpenPage() {
        Journal x = new Journal().total(4).due(0);
        for (int n = 1; n <= 25; n++) {
            x.append(1).due(n).total(4).due(n);
        }
        x.append(1).due(26).total(4).due(1).keep(27).due(true).total(0).due(0).total(4).due(1);
        x.sync().due(3).total(4).due(0).append(1).due(27).total(4).due(1).crash(0, 0).due(0).total(4).due(0);
    }

    // Promise 11: "5: WRITES that wait": 0 .. 40
    private static void writesThatWait() {
        Journal x = new Journal().total(5).due(0).appendEmpty(1, 25).total(5).due(0);
        x.appendEmpty(26, 41).total(5).due(1);
        for (int n = 2; n <= 40; n++) {
            x.keep(n).due(true).total(5).due(n);
        }
        x.keep(41).due(false).total(5).due(40).append(1).due(Checks.ILLEGAL_STATE).total(5).due(40);
        x.sync().due(41).total(5).due(0);
    }

    // Promise 11: "6: OLDEST of the HEAD of the greatest TURN that has been written as a whole": not while it waits
    private static void oldestWrittenAsAWhole() {
        Journal x = new Journal().total(6).due(1).appendPages(1, 5).keep(3).due(true).total(6).due(1).keep(5).due(true);
        x.total(6).due(1).sync().due(7).total(6).due(5);
        x = new Journal().appendPages(1, 5).keep(3).due(true).keep(5).due(true).crash(5, 63).due(2).total(6).due(3);
        x = new Journal().appendPages(1, 5).keep(3).due(true).keep(5).due(true).crash(5, 64).due(0).total(6).due(5);
    }

    // Promise 11: "(or was FOUND)": the HEAD that a CRASH found, though a greater TURN was written once; 1 without one
    private static void oldestThatWasFound() {
        Journal x = new Journal().appendPages(1, 3).keep(2).due(true).keep(3).due(true).sync().due(5).total(6).due(3);
        x.spoil(1, 0, 1).due(true).total(6).due(3).crash(0, 0).due(2).total(6).due(2).total(7).due(2);
        x.spoil(0, 0, 1).due(true).total(6).due(2).crash(0, 0).due(3).total(6).due(1).total(7).due(0);
        new Journal().forge(0, Checks.head(2, MOST, 1)).total(6).due(1).crash(0, 0).due(0).total(6).due(MOST);
    }

    // Promise 11: "7: the greatest TURN told so far (waiting, too)"; Terms: "(without one: TURN 0 ..)"
    private static void greatestTurn() {
        Journal x = new Journal().total(7).due(1).appendEmpty(1, 3).keep(2).due(true).total(7).due(2);
        x.keep(2).due(false).total(7).due(2).keep(3).due(true).total(7).due(3).sync().due(3).total(7).due(3);
        x.keep(4).due(true).total(7).due(4).crash(0, 0).due(1).total(7).due(3);
        x = new Journal().forge(1, new byte[64]).total(7).due(1).crash(0, 0).due(0).total(7).due(0).append(1).due(1);
        x.keep(2).due(true).total(7).due(1).write(0, 0).due(1);
    }

    // Promise 11: "8: CRASHES": 0 .. 300, none that was refused
    private static void crashes() {
        Journal x = new Journal().total(8).due(0).crash(-1, 0).due(Checks.ILLEGAL_ARGUMENT).total(8).due(0);
        for (int i = 1; i <= 300; i++) {
            x.crash(0, 0).due(0);
            if (i < 5 || i > 290) {
                x.total(8).due(i);
            }
        }
        x.crash(0, 0).due(Checks.ILLEGAL_STATE).total(8).due(300);
    }

    // Promise 11: "9: the next PAGE's NUMBER (behind the OPEN one)": also if none is OPEN, and if it can't be OPEN
    private static void nextPage() {
        Journal x = new Journal().total(9).due(2).append(1).due(1).total(9).due(2).sync().due(1).total(9).due(2);
        x.append(1).due(2).total(9).due(3).crash(0, 0).due(1).total(9).due(2);
        new Journal().crash(0, 0).due(0).total(9).due(1).append(1).due(1).total(9).due(2);
        new Journal().appendPages(1, 30).total(9).due(31).appendFilled(1, 40, 1).due(0).total(9).due(31)
            .sync().due(30).total(9).due(31).append(1).due(0).total(9).due(31).crash(0, 0).due(30).total(9).due(31);
        new Journal().forge(0, Checks.head(2, MOST, 1)).crash(0, 0).due(0).total(9).due(MOST).append(1).due(1)
            .total(3).due(MOST).total(9).due(MOST + 1);
    }
}

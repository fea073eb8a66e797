import java.util.function.Consumer;

/** Promise 5, sentence by sentence where one names a boundary case. */
public final class KeepBoundaryTest {
    private static final int LOW = Integer.MIN_VALUE;
    private static final int HIGH = Integer.MAX_VALUE;
    private static final int MOST = 1000000;

    private KeepBoundaryTest() { }

    public static void main(String[] args) {
        notAboveKept();
        aboveTheNextRecord();
        nothingToKeep();
        fortyWait();
        keptIsN();
        pageThatHasTheRecord();
        openPage();
        pageThatWouldComeToBeOpen();
        pageThatWouldComeIfTheRingWereNotFull();
        headsByTurns();
        otherBytesOfTheHeadAreZero();
        highestByteFirst();
        beyondTheGreatestNumbers();
        Checks.end("KeepBoundaryTest");
    }

    private static void dueRefused(Consumer<Journal> lead, int... wrong) {
        for (int n : wrong) {
            State.dueUnchanged("keep(" + n + ")", lead, x -> x.keep(n).due(false));
        }
    }

    // Promise 5: "false, changing nothing, if n is not above KEPT": KEPT itself is not, the next number is
    private static void notAboveKept() {
        dueRefused(x -> x.appendPages(1, 5).keep(3), 3, 2, 1, 0, -1, LOW);
        new Journal().appendPages(1, 5).keep(3).due(true).keep(3).due(false).keep(4).due(true).total(1).due(4);
    }

    // Promise 5: "false, changing nothing, if n is .. above the number of the next RECORD": that number itself is not
    private static void aboveTheNextRecord() {
        dueRefused(x -> x.appendPages(1, 3).keep(2), 5, 6, HIGH);
        new Journal().appendPages(1, 3).keep(5).due(false).keep(4).due(true).total(0).due(0).total(1).due(4);
        dueRefused(x -> x.appendPages(1, 3).sync(), 5, HIGH);
    }

    // Promise 5: "not above KEPT, or above the number of the next RECORD": KEPT is that number, so no n is good
    private static void nothingToKeep() {
        dueRefused(x -> { }, LOW, 0, 1, 2, HIGH);
        dueRefused(x -> x.append(1).keep(2), 1, 2, 3);
        dueRefused(x -> x.append(1).crash(0, 0), 1, 2);
        new Journal().append(1).keep(2).due(true).keep(2).due(false).keep(3).due(false)
            .append(1).due(2).keep(3).due(true);
    }

    // Promise 5: "false, changing nothing, if .. 40 WRITES wait": the 40th is still taken; a SYNC makes room again
    private static void fortyWait() {
        Consumer<Journal> lead = x -> x.appendEmpty(1, 60).keepEach(2, 38).total(5).due(39).keep(39).due(true);
        dueRefused(lead, 40, 61, 62, 39);
        Journal x = new Journal();
        lead.accept(x);
        x.total(5).due(40).keep(40).due(false).sync().due(41).keep(40).due(true).write(0, 4).due(40);
        x = new Journal();
        lead.accept(x);
        x.crash(0, 0).due(0).total(7).due(1);
    }

    // Promise 5, Terms: "RECORDS below n are needed no more: KEPT is n": one, some, all of them
    private static void keptIsN() {
        for (int n = 2; n <= 6; n++) {
            Journal x = new Journal().appendEmpty(1, 5).keep(n).due(true);
            x.dueTotals(6 - n, n, 6, 1, 5, 1, 1, 2, 0, 2).record(6 - n, 0).due(Checks.NO_SUCH_ELEMENT);
            for (int i = 0; i < 6 - n; i++) {
                x.dueRecord(i, n + i, 1 + n + i, 0, 1);
            }
        }
    }

    // Promise 5, Terms: "OLDEST is the PAGE that has RECORD n": a PAGE's first and last RECORD
    private static void pageThatHasTheRecord() {
        Journal x = new Journal().appendEmpty(1, 60).keep(25).due(true).keep(26).due(true).keep(50).due(true);
        x.keep(51).due(true).keep(60).due(true).keep(61).due(true);
        x.dueWrite(2, 0, Checks.head(2, 1, 25)).dueWrite(3, 1, Checks.head(3, 2, 26));
        x.dueWrite(4, 0, Checks.head(4, 2, 50)).dueWrite(5, 1, Checks.head(5, 3, 51));
        x.dueWrite(6, 0, Checks.head(6, 3, 60)).dueWrite(7, 1, Checks.head(7, 3, 61));
    }

    // Promise 5, Terms: "or, if it is the next one to come, the OPEN PAGE": also one that is full
    private static void openPage() {
        new Journal().append(1).due(1).keep(2).due(true).dueWrite(0, 0, Checks.head(2, 1, 2));
        Journal x = new Journal().appendEmpty(1, 25).keep(26).due(true).dueWrite(0, 0, Checks.head(2, 1, 26));
        x.append(1).due(26).record(0, 3).due(2).sync().due(3).crash(0, 0).due(1);
        x.dueTotals(1, 26, 27, 0, 0, 0, 1, 2, 1, 3);
    }

    // Promise 5, Terms: "(or the PAGE that would come to be OPEN)": none is OPEN behind a SYNC, or behind a CRASH
    private static void pageThatWouldComeToBeOpen() {
        Journal x = new Journal().appendEmpty(1, 3).sync().due(1).keep(4).due(true);
        x.dueWrite(0, 0, Checks.head(2, 2, 4)).append(1).due(4).record(0, 3).due(2);
        x = new Journal().appendEmpty(1, 3).sync().due(1).crash(0, 0).due(3).keep(4).due(true);
        x.dueWrite(0, 0, Checks.head(2, 2, 4)).append(1).due(4).record(0, 3).due(2);
    }

    // Promise 5, Terms: "the PAGE that would come to be OPEN", where THE RING is FULL: OLDEST is 30 more than before
    private static void pageThatWouldComeIfTheRingWereNotFull() {
        Journal x = new Journal().appendPages(1, 30).sync().due(30).append(1).due(0).keep(31).due(true);
        x.dueWrite(0, 0, Checks.head(2, 31, 31)).append(1).due(0).sync().due(1).total(6).due(31);
        x.append(1).due(31).record(0, 3).due(31).sync().due(1).dueBlock(2, Checks.page(31, 31, 1, 1, 0));
        x.crash(0, 0).due(1).dueTotals(1, 31, 32, 0, 0, 0, 31, 2, 1, 32);
    }

    // Promise 5, Terms: "a WRITE of the HEAD of the next TURN waits behind the others"; "HEAD t lies in BLOCK t modulo
    // 2": the HEADS go round
    private static void headsByTurns() {
        Journal x = new Journal().appendEmpty(1, 40);
        for (int n = 2; n <= 40; n++) {
            x.keep(n).due(true).total(5).due(n).write(n - 1, 0).due(n % 2).write(n - 1, 4).due(n).total(7).due(n);
        }
        x.sync().due(41).disk(0, 3).due(40).disk(1, 3).due(39);
        x.keep(41).due(true).write(0, 0).due(1).write(0, 4).due(41);
    }

    // Promise 5, Terms: "A HEAD: .. others are 0": also where a PAGE waited before it
    private static void otherBytesOfTheHeadAreZero() {
        Journal x = new Journal().appendPages(1, 3).sync().due(3).keep(2).due(true).keep(3).due(true);
        x.dueWrite(0, 0, Checks.head(2, 2, 2)).dueWrite(1, 1, Checks.head(3, 3, 3));
    }

    // Promise 5, Terms: "u32: four bytes, the highest first": a HEAD's numbers, where a byte more begins
    private static void highestByteFirst() {
        int[] numbers = {254, 255, 65534, 65535, 65536, MOST - 2};
        for (int number : numbers) {
            byte[] found = Checks.head(number, number, number);
            Journal x = new Journal().forge(number % 2, found).crash(0, 0).due(0).total(7).due(number);
            x.append(9).due(number).sync().due(1).keep(number + 1).due(true);
            x.dueWrite(0, (number + 1) % 2, Checks.head(number + 1, number + 1, number + 1));
        }
    }

    // Promise 5 and 6: "TURN, OLDEST, KEPT 1 .. 1000000" bound what is found, not what is told: the HEAD with a greater
    // one is written, but a CRASH finds the one ahead of it
    private static void beyondTheGreatestNumbers() {
        Journal x = new Journal().forge(0, Checks.head(MOST, 1, 1)).crash(0, 0).due(0).append(9).due(1);
        x.keep(2).due(true).dueWrite(0, 1, Checks.head(MOST + 1, 1, 2)).sync().due(2).total(7).due(MOST + 1);
        x.crash(0, 0).due(1).dueTotals(1, 1, 2, 0, 0, 0, 1, MOST, 2, 2);
        x = new Journal().forge(0, Checks.head(2, MOST, 1)).crash(0, 0).due(0).append(9).due(1).sync().due(1);
        x.keep(2).due(true).dueWrite(0, 1, Checks.head(3, MOST + 1, 2)).sync().due(1).total(6).due(MOST + 1);
        x.crash(0, 0).due(1).dueTotals(1, 1, 2, 0, 0, 0, MOST, 2, 2, MOST + 1);
        x = new Journal().forge(0, Checks.head(2, 1, MOST)).crash(0, 0).due(0).append(9).due(MOST);
        x.keep(MOST + 1).due(true).dueWrite(0, 1, Checks.head(3, 1, MOST + 1)).sync().due(2).total(1).due(MOST + 1);
        x.crash(0, 0).due(1).dueTotals(1, MOST, MOST + 1, 0, 0, 0, 1, 2, 2, 2);
    }
}

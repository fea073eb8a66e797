/** Promise 10, sentence by sentence where one names a boundary case. */
public final class WriteBoundaryTest {
    private static final int LOW = Integer.MIN_VALUE;
    private static final int HIGH = Integer.MAX_VALUE;

    private WriteBoundaryTest() { }

    public static void main(String[] args) {
        noSuchWrite();
        noWriteAtAll();
        everyWhat();
        fullList();
        openPageDoesNotWait();
        highBytes();
        everyPlace();
        Checks.end("WriteBoundaryTest");
    }

    // Promise 10: "NoSuchElementException: there is none such": the last WRITE that waits is there, the next one is not
    private static void noSuchWrite() {
        Journal x = new Journal().appendPages(1, 3).keep(2).due(true);
        x.write(0, 0).due(2).write(1, 0).due(3).write(2, 0).due(0);
        int[] wrong = {3, 4, 39, 40, 41, HIGH, -1, LOW};
        for (int i : wrong) {
            x.write(i, 0).due(Checks.NO_SUCH_ELEMENT).write(i, 1).due(Checks.NO_SUCH_ELEMENT);
            x.write(i, 64).due(Checks.NO_SUCH_ELEMENT);
        }
    }

    // Promise 10: "there is none such": none waits at first, behind a SYNC, behind a CRASH
    private static void noWriteAtAll() {
        new Journal().write(0, 0).due(Checks.NO_SUCH_ELEMENT);
        new Journal().appendPages(1, 3).sync().due(3).write(0, 0).due(Checks.NO_SUCH_ELEMENT);
        new Journal().appendPages(1, 3).crash(1, 5).due(1).write(0, 0).due(Checks.NO_SUCH_ELEMENT);
    }

    // Promise 10: "what 0: the BLOCK, 1 + k: byte k": 64 is the last byte, 65 is none
    private static void everyWhat() {
        Journal x = new Journal().appendPages(1, 2).dueWrite(0, 2, Checks.filledPage(1));
        int[] wrong = {65, 66, 128, HIGH, -1, -64, LOW};
        for (int what : wrong) {
            x.write(0, what).due(Checks.NO_SUCH_ELEMENT);
        }
    }

    // Promise 10: "Of the i-th WRITE that waits": 40 of them, the last with its own bytes, no 41st
    private static void fullList() {
        Journal x = new Journal().appendEmpty(1, 41).keepEach(2, 40).total(5).due(40);
        for (int i = 1; i < 40; i++) {
            x.write(i, 0).due((i + 1) % 2).write(i, 4).due(i + 1).write(i, 12).due(i + 1);
        }
        x.dueWrite(39, 0, Checks.head(40, 2, 40)).write(0, 0).due(2).write(40, 0).due(Checks.NO_SUCH_ELEMENT);
    }

    // Promise 10: "WRITE that waits": the OPEN PAGE's comes to wait when it is CLOSED, full as it may be before
    private static void openPageDoesNotWait() {
        Journal x = new Journal().appendEmpty(1, 25).write(0, 0).due(Checks.NO_SUCH_ELEMENT).total(5).due(0);
        x.append(1).due(26).write(0, 0).due(2).write(0, 9).due(25).write(1, 0).due(Checks.NO_SUCH_ELEMENT);
        // what comes later is not in the WRITE that waits
        x.append(2).due(27).write(0, 9).due(25).write(0, 10).due(2);
    }

    // Promise 10: "byte k": 0 .. 255
    private static void highBytes() {
        Journal x = new Journal().appendFilled(255, 40, 255).due(1).appendFilled(254, 40, 128).due(2);
        x.append(1).due(3).appendFilled(1, 40, 0).due(4);
        x.write(0, 10).due(255).write(0, 11).due(40).write(0, 12).due(255).write(0, 51).due(255).write(0, 52).due(0);
        x.write(1, 10).due(254).write(1, 12).due(128).write(1, 51).due(128).write(1, 52).due(1).write(1, 53).due(0);
    }

    // Promise 10: "what 0: the BLOCK": 2 .. 31 for PAGES 1 .. 30, and 2 again for PAGE 31
    private static void everyPlace() {
        Journal x = new Journal().appendPages(1, 30);
        for (int i = 0; i < 29; i++) {
            x.write(i, 0).due(2 + i);
        }
        x.keep(31).due(true).write(29, 0).due(0).sync().due(31).appendPages(31, 33);
        x.write(0, 0).due(2).write(1, 0).due(3).write(2, 0).due(Checks.NO_SUCH_ELEMENT);
        x = new Journal().appendPages(1, 29).keep(30).due(true).sync().due(30).append(9).due(30);
        x.appendFilled(9, 40, 9).due(31).appendFilled(9, 40, 9).due(32).write(0, 0).due(31);
        x.write(1, 0).due(Checks.NO_SUCH_ELEMENT);
    }
}

/** Promise 1, sentence by sentence where one names a boundary case. */
public final class NewObjectBoundaryTest {
    private NewObjectBoundaryTest() { }

    public static void main(String[] args) {
        firstDisk();
        zeroBlocksAreNoPages();
        zeroBlockWithItsCheckRightIsNoPage();
        emptyMemory();
        objectsShareNothing();
        lastCall();
        Checks.end("NewObjectBoundaryTest");
    }

    // Promise 1, Terms: "At first the DISK has HEAD 1 (OLDEST 1, KEPT 1); all other bytes are 0"
    private static void firstDisk() {
        for (int from = 0; from < 32; from += 8) {
            Journal x = new Journal();
            for (int block = from; block < from + 8; block++) {
                x.dueBlock(block, block == 1 ? Checks.head(1, 1, 1) : new byte[64]);
            }
        }
    }

    // Promise 1, Terms: "all other bytes are 0 (such BLOCKS are not taken for PAGES, ..)"
    private static void zeroBlocksAreNoPages() {
        new Journal().crash(0, 0).due(0).dueTotals(0, 1, 1, 0, 0, 0, 1, 1, 1, 1);
    }

    // Promise 1, Terms: "(such BLOCKS are not taken for PAGES, whatever their CHECK)"
    private static void zeroBlockWithItsCheckRightIsNoPage() {
        byte[] zero = Checks.sealed(new byte[64]);
        new Journal().forge(2, zero).crash(0, 0).due(0).dueTotals(0, 1, 1, 0, 0, 0, 1, 1, 1, 1);
        new Journal().forge(2, zero).appendPages(1, 1).crash(0, 0).due(0);
        new Journal().appendPages(1, 2).sync().forge(4, zero).crash(0, 0).due(2).total(9).due(3);
    }

    // Promise 1, Terms: "IN MEMORY: RECORDS from KEPT on; the OPEN PAGE (PAGE 1 at first) ..; WRITES that wait ..;
    // KEPT": the empty memory
    private static void emptyMemory() {
        Journal x = new Journal().dueTotals(0, 1, 1, 1, 0, 0, 1, 1, 0, 2, RoundJournal.NONE);
        for (int what = -1; what <= 65; what++) {
            x.record(0, what).due(Checks.NO_SUCH_ELEMENT).write(0, what).due(Checks.NO_SUCH_ELEMENT);
        }
        x.append(1).due(1).record(0, 2).due(0).record(0, 3).due(1);
    }

    // Promise 1: "makes an object in the state that the terms give", whatever others have been through
    private static void objectsShareNothing() {
        State.dueUnchanged("calls on another object", x -> { }, x -> {
            Journal other = new Journal().appendPages(1, 30).keep(5).due(true).sync().due(31);
            other.typeFilled(9, 9).crash(0, 0).due(26);
        });
    }

    // "An object is used for at most 512 calls after it has been made": the 512th is still answered as any other
    private static void lastCall() {
        Journal x = new Journal().appendEmpty(1, Journal.MOST_CALLS - 1);
        x.append(255).due(Journal.MOST_CALLS);
        Checks.due("calls left", x.left(), 0);
        new Journal().appendEmpty(1, Journal.MOST_CALLS - 1).sync().due(21);
        new Journal().appendEmpty(1, Journal.MOST_CALLS - 2).sync().due(21).crash(0, 0).due(510);
    }
}

/** Promise 9, sentence by sentence where one names a boundary case. */
public final class RecordBoundaryTest {
    private static final int LOW = Integer.MIN_VALUE;
    private static final int HIGH = Integer.MAX_VALUE;
    private static final int MOST = 1000000;

    private RecordBoundaryTest() { }

    public static void main(String[] args) {
        zeroIsKept();
        noSuchRecord();
        noRecordAtAll();
        everyWhat();
        everyByte();
        manyRecords();
        farNumbers();
        pages();
        looksChangeNothing();
        Checks.end("RecordBoundaryTest");
    }

    // Promise 9: "Of the i-th RECORD in memory (0 is KEPT)": KEPT at first, told by a KEEP, and FOUND
    private static void zeroIsKept() {
        Journal x = new Journal().appendEmpty(1, 5).record(0, 0).due(1).keep(2).due(true).record(0, 0).due(2);
        x.keep(5).due(true).record(0, 0).due(5).record(1, 0).due(Checks.NO_SUCH_ELEMENT);
        x.sync().due(3).crash(0, 0).due(1).record(0, 0).due(5).record(-1, 0).due(Checks.NO_SUCH_ELEMENT);
    }

    // Promise 9: "NoSuchElementException: there is none such": the last RECORD is there, the next one is not
    private static void noSuchRecord() {
        Journal x = new Journal().appendPages(1, 3).keep(2).due(true).record(0, 0).due(2).record(1, 0).due(3);
        int[] wrong = {2, 3, HIGH, HIGH - 1, -1, -2, LOW, LOW + 1};
        for (int i : wrong) {
            for (int what = 0; what <= 4; what++) {
                x.record(i, what).due(Checks.NO_SUCH_ELEMENT);
            }
        }
        x.append(9).due(4).record(2, 0).due(4).record(3, 0).due(Checks.NO_SUCH_ELEMENT);
    }

    // Promise 9: "there is none such": no RECORD at first, behind a KEEP of all, behind a CRASH
    private static void noRecordAtAll() {
        new Journal().record(0, 0).due(Checks.NO_SUCH_ELEMENT);
        new Journal().appendEmpty(1, 2).keep(3).due(true).record(0, 0).due(Checks.NO_SUCH_ELEMENT)
            .append(9).due(3).record(0, 0).due(3);
        new Journal().appendEmpty(1, 2).crash(HIGH, 64).due(0).record(0, 0).due(Checks.NO_SUCH_ELEMENT);
    }

    // Promise 9: "what 0: its number, 1: its KIND, 2: how many bytes, 3: its PAGE, 4 + k: byte k of it": the last byte
    // is there, the next one is not, from 0 bytes to 40
    private static void everyWhat() {
        int[] wrong = {-1, -4, LOW, LOW + 4, 44, 45, 64, 255, HIGH, HIGH - 4};
        for (int n = 0; n <= 40; n++) {
            Journal x = new Journal().append(1).appendFilled(200, n, 10 + n).due(2).append(1);
            x.record(1, 0).due(2).record(1, 1).due(200).record(1, 2).due(n).record(1, 3).due(1);
            for (int k = 0; k <= 40; k++) {
                x.record(1, 4 + k).due(k < n ? 10 + n : Checks.NO_SUCH_ELEMENT);
            }
            for (int what : wrong) {
                x.record(1, what).due(Checks.NO_SUCH_ELEMENT);
            }
        }
    }

    // Promise 9: "byte k of it": 0 .. 255
    private static void everyByte() {
        for (int from = 0; from < 256; from += 8) {
            Journal x = new Journal();
            for (int v = from; v < from + 8; v++) {
                x.type(v, 1).due(true);
            }
            x.append(255).due(1);
            for (int k = 0; k < 8; k++) {
                x.record(0, 4 + k).due(from + k);
            }
        }
    }

    // Promise 9: "the i-th RECORD in memory": as many as an object's calls can bring. No run shows all 750 that 30
    // PAGES can have (25 each), as each of them takes an append.
    private static void manyRecords() {
        Journal x = new Journal().appendEmpty(1, 500).record(499, 0).due(500).record(499, 1).due(1 + 500 % 255);
        x.record(499, 3).due(20).record(0, 0).due(1).record(475, 3).due(20).record(474, 3).due(19);
        x.record(500, 0).due(Checks.NO_SUCH_ELEMENT).append(1).due(501).record(500, 3).due(21);
    }

    // Promise 9: "its number", "its PAGE": far numbers, where the places of RECORDS and PAGES go round
    private static void farNumbers() {
        int[] kepts = {740, 1490, 65530, MOST - 1, MOST};
        for (int kept : kepts) {
            Journal x = new Journal().forge(0, Checks.head(2, kept, kept)).crash(0, 0).due(0);
            for (int i = 0; i < 30; i++) {
                x.append(1 + i).due(kept + i);
            }
            for (int i = 0; i < 30; i++) {
                x.dueRecord(i, kept + i, 1 + i, 0, i < 25 ? kept : kept + 1);
            }
        }
    }

    // Promise 9: "3: its PAGE": the OPEN one, one that waits, one on the DISK, the 30th and the 31st
    private static void pages() {
        Journal x = new Journal().appendPages(1, 1).sync().due(1).appendPages(2, 3);
        x.record(0, 3).due(1).record(1, 3).due(2).record(2, 3).due(3);
        x = new Journal().appendPages(1, 30).keep(2).due(true).sync().due(31).appendPages(31, 31);
        for (int i = 0; i < 30; i++) {
            x.record(i, 0).due(i + 2).record(i, 3).due(i + 2).record(i, 4).due(i + 2).record(i, 43).due(i + 2);
        }
        x.record(30, 0).due(Checks.NO_SUCH_ELEMENT);
    }

    // Promise 8 to 11: a look, good or wrong, changes nothing
    private static void looksChangeNothing() {
        State.dueUnchanged("looks", x -> x.appendPages(1, 4).keep(2).due(true).type(5, 5), x -> {
            int[] numbers = {LOW, -1, 0, 1, 2, 3, 64, 65, HIGH};
            for (int i : numbers) {
                x.record(i, 0).write(i, 0).disk(i, 0).total(i).record(0, i).write(0, i).disk(0, i);
            }
        });
    }
}

/** Promise 2, sentence by sentence where one names a boundary case. */
public final class TypeBoundaryTest {
    private static final int[] NO_COUNTS = {Integer.MIN_VALUE, -8, -1, 0, 9, 16, 256 + 8, Integer.MAX_VALUE};

    private TypeBoundaryTest() { }

    public static void main(String[] args) {
        lowestBytes();
        otherCounts();
        otherCountsOnAnEmptyTape();
        emptyTape();
        upToForty();
        fullTape();
        refusedInTheMiddle();
        tapeStaysTillAnAppend();
        Checks.end("TypeBoundaryTest");
    }

    // Promise 2: "The n (1 .. 8) lowest bytes of word, the highest first, go to the tape: true"
    private static void lowestBytes() {
        long[] words = {0x8899AABBCCDDEEFFL, 0x0102030405060708L, 0, -1, Long.MIN_VALUE, Long.MAX_VALUE};
        for (long word : words) {
            for (int n = 1; n <= 8; n++) {
                int[] want = new int[4 + n];
                System.arraycopy(new int[] {1, 7, n, 1}, 0, want, 0, 4);
                for (int k = 0; k < n; k++) {
                    want[4 + k] = (int) (word >>> 8 * (n - 1 - k)) & 0xFF;
                }
                new Journal().type(word, n).due(true).append(7).due(1).dueRecord(0, want);
            }
        }
    }

    // Promise 2: "false, changing nothing, for another n"
    private static void otherCounts() {
        for (int n : NO_COUNTS) {
            State.dueUnchanged("type(-1, " + n + ")", x -> x.append(9).type(0x1122, 2), x -> x.type(-1, n).due(false));
        }
    }

    // Promise 2: "false, changing nothing, for another n", on an empty tape and on a full one
    private static void otherCountsOnAnEmptyTape() {
        for (int n : NO_COUNTS) {
            new Journal().type(-1, n).due(false).append(1).due(1).dueRecord(0, 1, 1, 0, 1);
            new Journal().typeFilled(40, 5).type(-1, n).due(false).append(1).due(1).record(0, 2).due(40);
        }
    }

    // Promise 2 and 3: the tape is empty at first, and behind each append: a RECORD of 0 bytes
    private static void emptyTape() {
        new Journal().append(7).due(1).dueRecord(0, 1, 7, 0, 1);
        Journal x = new Journal().typeFilled(40, 1).append(7).due(1).append(8).due(2).dueRecord(1, 2, 8, 0, 1);
        x.typeFilled(40, 2).type(3, 1).due(false);
    }

    // Promise 2: "or if it would have more than 40": from each length on, the last n taken, the first that isn't
    private static void upToForty() {
        for (int length = 0; length <= 40; length++) {
            for (int n = 1; n <= 8; n++) {
                Journal x = new Journal().typeFilled(length, 0xEE).type(0, n).due(length + n <= 40).append(1).due(1);
                x.record(0, 2).due(length + n <= 40 ? length + n : length);
            }
        }
    }

    // Promise 2: "false, changing nothing, .. if it would have more than 40": a full tape stays as it is
    private static void fullTape() {
        for (int n = 1; n <= 8; n++) {
            int more = n;
            State.dueUnchanged("type(0, " + n + ")", x -> x.typeFilled(40, 0xA5), x -> x.type(0, more).due(false));
        }
    }

    // Promise 2: "false, changing nothing": what is taken later stands right behind what was taken ahead
    private static void refusedInTheMiddle() {
        Journal x = new Journal().typeFilled(33, 1).type(-1, 8).due(false).type(0x02030405060708L, 7).due(true);
        x.type(-1, 1).due(false).append(1).due(1).record(0, 2).due(40);
        for (int k = 32; k < 40; k++) {
            x.record(0, 4 + k).due(k - 31);
        }
    }

    // Promise 2 and 3: what went to the tape stays there till an append; Terms: it is not among what is IN MEMORY, so
    // that a CRASH leaves it, too
    private static void tapeStaysTillAnAppend() {
        Journal x = new Journal().append(1).due(1).typeFilled(39, 0xEE).sync().due(1).keep(2).due(true);
        x.keep(2).due(false).spoil(2, 0, 1).due(true).disk(2, 0).due(1).total(0).due(0);
        x.record(0, 0).due(Checks.NO_SUCH_ELEMENT).write(0, 0).due(0);
        x.crash(-1, 0).due(Checks.ILLEGAL_ARGUMENT).crash(1, 0).due(0).type(0, 2).due(false).type(0xDD, 1).due(true);
        x.append(9).due(2).record(0, 2).due(40).record(0, 4).due(0xEE).record(0, 42).due(0xEE).record(0, 43).due(0xDD);
    }
}

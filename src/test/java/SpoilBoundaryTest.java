/** Promise 7, sentence by sentence where one names a boundary case. */
public final class SpoilBoundaryTest {
    private static final int LOW = Integer.MIN_VALUE;
    private static final int HIGH = Integer.MAX_VALUE;

    private SpoilBoundaryTest() { }

    public static void main(String[] args) {
        eachCorner();
        noneSuch();
        lowestEightBits();
        onlyThatByte();
        onlyTheDisk();
        Checks.end("SpoilBoundaryTest");
    }

    // Promise 7, Terms: "THE DISK: 32 BLOCKS of 64 bytes": the first and the last byte of each BLOCK
    private static void eachCorner() {
        Journal x = new Journal();
        for (int block = 0; block < 32; block++) {
            x.spoil(block, 0, 100 + block).due(true).spoil(block, 63, 200 + block).due(true);
        }
        for (int block = 0; block < 32; block++) {
            x.disk(block, 0).due(100 + block).disk(block, 63).due(200 + block);
            x.disk(block, 1).due(0).disk(block, 59).due(0);
        }
    }

    // Promise 7: "false if there is none such", and the DISK is as it was
    private static void noneSuch() {
        int[][] none = {{-1, 0}, {-1, 64}, {32, 0}, {32, -1}, {0, -1}, {0, 64}, {31, 64}, {1, -1}, {LOW, 0}, {HIGH, 0},
            {0, LOW}, {0, HIGH}, {LOW, LOW}, {HIGH, HIGH}, {-1, HIGH}, {256, 0}, {0, 256}};
        State.dueUnchanged("spoils of none", x -> x.appendPages(1, 3).keep(2), x -> {
            for (int[] at : none) {
                x.spoil(at[0], at[1], 0xEE).due(false);
            }
        });
    }

    // Promise 7: "becomes v's lowest 8 bits"
    private static void lowestEightBits() {
        int[] values = {0, 1, 127, 128, 255, 256, 257, 511, -1, -128, -129, -255, -256, LOW, HIGH};
        Journal x = new Journal();
        for (int v : values) {
            x.spoil(9, 9, v).due(true).disk(9, 9).due(v & 0xFF);
        }
    }

    // Promise 7: "Byte i of a BLOCK on the DISK becomes ..": the bytes beside it stay
    private static void onlyThatByte() {
        Journal x = new Journal().spoil(4, 63, -1).due(true).spoil(6, 0, -1).due(true);
        byte[] last = new byte[64];
        last[63] = -1;
        byte[] first = new byte[64];
        first[0] = -1;
        x.dueBlock(3, new byte[64]).dueBlock(4, last).dueBlock(5, new byte[64]).dueBlock(6, first);
    }

    // Promise 7: ".. on the DISK": what is in memory, and what waits, stays as it was, till a CRASH
    private static void onlyTheDisk() {
        Journal x = new Journal().appendPages(1, 1).sync().due(1).keep(2).due(true).appendPages(2, 3).keep(3).due(true);
        for (int block = 0; block < 5; block++) {
            x.spoil(block, 3, 77).due(true).spoil(block, 7, 77).due(true).spoil(block, 11, 77).due(true);
        }
        x.dueTotals(1, 3, 4, 3, 1, 3, 1, 3, 0, 4);
        x.dueWrite(0, 0, Checks.head(2, 2, 2)).dueWrite(2, 1, Checks.head(3, 3, 3));
        x.record(0, 0).due(3).record(0, 4).due(3).record(0, 11).due(3);
        x.sync().due(4).dueBlock(0, Checks.head(2, 2, 2)).dueBlock(1, Checks.head(3, 3, 3)).crash(0, 0).due(1);
    }
}

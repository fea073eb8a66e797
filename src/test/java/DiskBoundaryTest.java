/** Promise 8, sentence by sentence where one names a boundary case. */
public final class DiskBoundaryTest {
    private static final int LOW = Integer.MIN_VALUE;
    private static final int HIGH = Integer.MAX_VALUE;

    private DiskBoundaryTest() { }

    public static void main(String[] args) {
        noneSuch();
        everyByte();
        notYetOnTheDisk();
        fullDisk();
        Checks.end("DiskBoundaryTest");
    }

    // Promise 8: "NONE if there is none such"; Terms: "THE DISK: 32 BLOCKS of 64 bytes"
    private static void noneSuch() {
        int[][] none = {{-1, 0}, {-1, 63}, {-1, 64}, {32, 0}, {32, 63}, {32, -1}, {0, -1}, {0, 64}, {31, -1}, {31, 64},
            {LOW, 0}, {HIGH, 0}, {0, LOW}, {0, HIGH}, {LOW, HIGH}, {HIGH, LOW}, {1 << 26, 0}, {0, 1 << 26}};
        Journal x = new Journal();
        for (int block = 0; block < 32; block++) {
            x.spoil(block, 0, block).spoil(block, 63, block);
        }
        for (int[] at : none) {
            x.disk(at[0], at[1]).due(RoundJournal.NONE);
        }
        for (int block = 0; block < 32; block++) {
            x.disk(block, 0).due(block).disk(block, 63).due(block);
        }
    }

    // Promise 8: "Byte i of a BLOCK": 0 .. 255, so that none is taken for NONE
    private static void everyByte() {
        Journal x = new Journal();
        for (int v = 0; v < 256; v++) {
            x.spoil(31, 63, v).disk(31, 63).due(v);
        }
    }

    // Promise 8: ".. on the DISK": not what waits, nor what is on the OPEN PAGE
    private static void notYetOnTheDisk() {
        Journal x = new Journal().appendPages(1, 2).keep(2).due(true);
        x.dueBlock(0, new byte[64]).dueBlock(1, Checks.head(1, 1, 1));
        x.dueBlock(2, new byte[64]).dueBlock(3, new byte[64]);
    }

    // Promise 8, Terms: "0 and 1 are for HEADS, 2 .. 31 are THE RING": the full DISK, each BLOCK with what lies there
    private static void fullDisk() {
        for (int from = 0; from < 32; from += 4) {
            Journal x = new Journal().appendPages(1, 30).keep(2).due(true).sync().due(31);
            for (int block = from; block < from + 4; block++) {
                x.dueBlock(block, block == 0 ? Checks.head(2, 2, 2) : block == 1 ? Checks.head(1, 1, 1)
                    : Checks.filledPage(block - 1));
            }
        }
    }
}

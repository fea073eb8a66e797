import java.util.NoSuchElementException;

public final class RoundJournal {
    public static final int NONE = -1;

    private static final int BLOCK_SIZE = 64;
    private static final int CHECK_AT = 60;
    private static final int DISK_BLOCKS = 32;
    private static final int HEAD_BLOCKS = 2;
    private static final int RING_BLOCKS = 30;
    private static final int GREATEST_NUMBER = 1000000;

    private static final int RECORDS_AT = 9;
    private static final int MOST_RECORD_BYTES = 40;
    private static final int GREATEST_KIND = 255;

    private static final int MOST_WAITING = 40;
    private static final int MOST_COME = 3000;
    private static final int MOST_CRASHES = 300;

    private final Blocks diskBlocks;
    private final Waiting waiting;
    private final Pages pages;
    private final Records records;
    private final Head head;
    private final Tape tape;
    private int toldTurn;
    private int come;
    private int crashes;

    public RoundJournal() {
        diskBlocks = new Blocks(DISK_BLOCKS);
        waiting = new Waiting();
        pages = new Pages();
        records = new Records();
        head = new Head();
        tape = new Tape();
        toldTurn = 1;
        Head.fill(diskBlocks, Head.placeOf(toldTurn), toldTurn, 1, 1);
        head.readFrom(diskBlocks, Head.placeOf(toldTurn));
        records.restart(head.kept);
        pages.restart(head.oldest);
        pages.openNext(records.next);
    }

    public boolean type(long word, int n) {
        return tape.put(word, n);
    }

    public int append(int kind) throws IllegalArgumentException, IllegalStateException {
        int n = tape.lift();
        if (kind < 1 || kind > GREATEST_KIND) {
            throw new IllegalArgumentException("no such kind");
        }
        if (waiting.count >= MOST_WAITING || come >= MOST_COME) {
            throw new IllegalStateException("too many writes wait, or too many records have come");
        }
        if (!makeRoom(n)) {
            return 0;
        }
        come++;
        int start = pages.addRecord(kind, tape, n);
        return records.add(pages.open, start);
    }

    public int sync() {
        closeOpenPage();
        int n = waiting.count;
        doWrites(n);
        waiting.count = 0;
        return n;
    }

    public boolean keep(int n) {
        if (n <= records.kept || n > records.next || waiting.count >= MOST_WAITING) {
            return false;
        }
        int oldest = n < records.next ? records.pageOf(n) : pages.coming();
        toldTurn++;
        waiting.addHead(toldTurn, oldest, n);
        records.kept = n;
        return true;
    }

    public int crash(int k, int c) throws IllegalArgumentException, IllegalStateException {
        if (k < 0 || c < 0 || c > BLOCK_SIZE) {
            throw new IllegalArgumentException("no such crash");
        }
        if (crashes >= MOST_CRASHES) {
            throw new IllegalStateException("too many crashes");
        }
        crashes++;
        int done = Math.min(k, waiting.count);
        doWrites(done);
        if (done < waiting.count) {
            diskBlocks.copyFrom(waiting.blocks, done, waiting.placeOf(done), c);
        }
        waiting.count = 0;
        findAgain();
        return records.count();
    }

    public boolean spoil(int block, int i, int v) {
        if (!diskBlocks.has(block, i)) {
            return false;
        }
        diskBlocks.set(block, i, v);
        return true;
    }

    public int disk(int block, int i) {
        return diskBlocks.has(block, i) ? diskBlocks.get(block, i) : NONE;
    }

    public int record(int i, int what) throws NoSuchElementException {
        if (i < 0 || i >= records.count()) {
            throw new NoSuchElementException("no such record");
        }
        int number = records.kept + i;
        int page = records.pageOf(number);
        int start = records.startOf(number);
        int n = pages.byteAt(page, start + 1);
        if (what < 0 || what >= 4 + n) {
            throw new NoSuchElementException("nothing such of a record");
        }
        switch (what) {
            case 0: return number;
            case 1: return pages.byteAt(page, start);
            case 2: return n;
            case 3: return page;
            default: return pages.byteAt(page, start + 2 + what - 4);
        }
    }

    public int write(int i, int what) throws NoSuchElementException {
        if (i < 0 || i >= waiting.count || what < 0 || what > BLOCK_SIZE) {
            throw new NoSuchElementException("no such write");
        }
        return what == 0 ? waiting.placeOf(i) : waiting.blocks.get(i, what - 1);
    }

    public int total(int what) {
        switch (what) {
            case 0: return records.count();
            case 1: return records.kept;
            case 2: return records.next;
            case 3: return pages.open;
            case 4: return pages.openCount();
            case 5: return waiting.count;
            case 6: return head.oldest;
            case 7: return toldTurn;
            case 8: return crashes;
            case 9: return pages.next;
            default: return NONE;
        }
    }

    /** Sees to an OPEN PAGE where a RECORD of n bytes fits; false, changing nothing, if THE RING is FULL. */
    private boolean makeRoom(int n) {
        if (pages.fits(n)) {
            return true;
        }
        if (pages.next >= head.oldest + RING_BLOCKS) {
            return false;
        }
        closeOpenPage();
        pages.openNext(records.next);
        return true;
    }

    private void closeOpenPage() {
        if (pages.openCount() == 0) {
            return;
        }
        int row = Pages.rowOf(pages.open);
        pages.rows.seal(row);
        waiting.addPage(pages.open, pages.rows, row);
        pages.open = 0;
    }

    private void doWrites(int n) {
        for (int i = 0; i < n; i++) {
            int place = waiting.placeOf(i);
            diskBlocks.copyFrom(waiting.blocks, i, place, BLOCK_SIZE);
            // TURNS only grow, so a HEAD written later is always the one of the greatest TURN
            if (place < HEAD_BLOCKS) {
                head.readFrom(waiting.blocks, i);
            }
        }
    }

    private void findAgain() {
        head.find(diskBlocks);
        toldTurn = head.turn;
        records.restart(head.kept);
        pages.restart(head.oldest);
        int behind = NONE;
        for (int i = 0; i < RING_BLOCKS; i++) {
            int block = Pages.placeOf(pages.next);
            if (!isNextPage(block, behind)) {
                break;
            }
            behind = takePage(block);
        }
    }

    /** behind is the number behind the last RECORD of the PAGES ahead, NONE if there is no PAGE ahead. */
    private boolean isNextPage(int block, int behind) {
        // a u32 beyond the ints reads as a negative one, so that it is no good number either
        int first = diskBlocks.u32(block, 4);
        if (diskBlocks.u32(block, 0) != pages.next || !isNumber(first)) {
            return false;
        }
        boolean follows = behind == NONE ? first <= records.kept : first == behind;
        return follows && diskBlocks.isWhole(block) && hasGoodRecords(block);
    }

    private boolean hasGoodRecords(int block) {
        int count = diskBlocks.get(block, 8);
        int at = RECORDS_AT;
        for (int i = 0; i < count; i++) {
            if (at + 2 > CHECK_AT) {
                return false;
            }
            int n = diskBlocks.get(block, at + 1);
            if (diskBlocks.get(block, at) == 0 || n > MOST_RECORD_BYTES || at + 2 + n > CHECK_AT) {
                return false;
            }
            at += 2 + n;
        }
        return true;
    }

    /** Answers the number behind the PAGE's last RECORD. */
    private int takePage(int block) {
        int page = pages.takeNext(diskBlocks, block);
        int first = diskBlocks.u32(block, 4);
        int count = diskBlocks.get(block, 8);
        int at = RECORDS_AT;
        for (int i = 0; i < count; i++) {
            if (first + i >= records.kept) {
                records.add(page, at);
            }
            at += 2 + diskBlocks.get(block, at + 1);
        }
        return first + count;
    }

    private static boolean isNumber(int n) {
        return n >= 1 && n <= GREATEST_NUMBER;
    }

    /** A row of BLOCKS: the DISK's, those of WRITES that wait, or PAGES in memory. */
    private static final class Blocks {
        // what the CRC's four lowest bits add when they are shifted out, by 0xEDB88320
        private static final int[] FOUR_BITS = {
            0x00000000, 0x1DB71064, 0x3B6E20C8, 0x26D930AC, 0x76DC4190, 0x6B6B51F4, 0x4DB26158, 0x5005713C,
            0xEDB88320, 0xF00F9344, 0xD6D6A3E8, 0xCB61B38C, 0x9B64C2B0, 0x86D3D2D4, 0xA00AE278, 0xBDBDF21C
        };

        private final int count;
        private final byte[] bytes;

        Blocks(int wanted) {
            // a length that is always good for a new array; no row of more BLOCKS is ever needed
            count = Math.max(0, Math.min(wanted, MOST_WAITING + 1));
            bytes = new byte[count * BLOCK_SIZE];
        }

        boolean has(int block, int i) {
            return block >= 0 && block < count && i >= 0 && i < BLOCK_SIZE;
        }

        int get(int block, int i) {
            return has(block, i) ? bytes[block * BLOCK_SIZE + i] & 0xFF : 0;
        }

        void set(int block, int i, int v) {
            if (has(block, i)) {
                bytes[block * BLOCK_SIZE + i] = (byte) v;
            }
        }

        int u32(int block, int i) {
            if (i > BLOCK_SIZE - 4 || !has(block, i)) {
                return 0;
            }
            int at = block * BLOCK_SIZE + i;
            return (bytes[at] & 0xFF) << 24 | (bytes[at + 1] & 0xFF) << 16 | (bytes[at + 2] & 0xFF) << 8
                | bytes[at + 3] & 0xFF;
        }

        void setU32(int block, int i, int v) {
            set(block, i, v >>> 24);
            set(block, i + 1, v >>> 16);
            set(block, i + 2, v >>> 8);
            set(block, i + 3, v);
        }

        void clear(int block) {
            for (int i = 0; i < BLOCK_SIZE; i++) {
                set(block, i, 0);
            }
        }

        void copyFrom(Blocks other, int from, int to, int n) {
            if (has(to, 0) && other.has(from, 0) && n >= 0 && n <= BLOCK_SIZE) {
                System.arraycopy(other.bytes, from * BLOCK_SIZE, bytes, to * BLOCK_SIZE, n);
            }
        }

        int checkOf(int block) {
            if (!has(block, 0)) {
                return 0;
            }
            int at = block * BLOCK_SIZE;
            int crc = -1;
            for (int i = 0; i < CHECK_AT; i++) {
                crc ^= bytes[at + i] & 0xFF;
                crc = crc >>> 4 ^ FOUR_BITS[crc & 15];
                crc = crc >>> 4 ^ FOUR_BITS[crc & 15];
            }
            return ~crc;
        }

        void seal(int block) {
            setU32(block, CHECK_AT, checkOf(block));
        }

        boolean isWhole(int block) {
            return u32(block, CHECK_AT) == checkOf(block);
        }
    }

    /** The HEAD of the greatest TURN that has been written as a whole, or was FOUND. */
    private static final class Head {
        private int turn;
        private int oldest;
        private int kept;

        static int placeOf(int turn) {
            return turn & 1;
        }

        static void fill(Blocks blocks, int row, int turn, int oldest, int kept) {
            blocks.clear(row);
            blocks.setU32(row, 0, turn);
            blocks.setU32(row, 4, oldest);
            blocks.setU32(row, 8, kept);
            blocks.seal(row);
        }

        void readFrom(Blocks blocks, int row) {
            turn = blocks.u32(row, 0);
            oldest = blocks.u32(row, 4);
            kept = blocks.u32(row, 8);
        }

        void find(Blocks disk) {
            turn = 0;
            oldest = 1;
            kept = 1;
            for (int block = 0; block < HEAD_BLOCKS; block++) {
                if (isGood(disk, block) && disk.u32(block, 0) > turn) {
                    readFrom(disk, block);
                }
            }
        }

        private static boolean isGood(Blocks disk, int block) {
            return isNumber(disk.u32(block, 0)) && placeOf(disk.u32(block, 0)) == block
                && isNumber(disk.u32(block, 4)) && isNumber(disk.u32(block, 8)) && disk.isWhole(block);
        }
    }

    /** The WRITES that wait; a SYNC may add the OPEN PAGE's to the most that wait. */
    private static final class Waiting {
        private final Blocks blocks = new Blocks(MOST_WAITING + 1);
        private final int[] places = new int[MOST_WAITING + 1];
        private int count;

        int placeOf(int i) {
            return i >= 0 && i < places.length ? places[i] : NONE;
        }

        void addPage(int page, Blocks from, int row) {
            if (count < places.length) {
                places[count] = Pages.placeOf(page);
                blocks.copyFrom(from, row, count, BLOCK_SIZE);
                count++;
            }
        }

        void addHead(int turn, int oldest, int kept) {
            if (count < places.length) {
                places[count] = Head.placeOf(turn);
                Head.fill(blocks, count, turn, oldest, kept);
                count++;
            }
        }
    }

    /**
     * The PAGES that RECORDS in memory stand on, the OPEN one among them. No more than 30 are ever of use at once,
     * from the written HEAD's OLDEST on, so each has a row of its own.
     */
    private static final class Pages {
        private final Blocks rows = new Blocks(RING_BLOCKS);
        private int open;
        private int used;
        private int next;

        static int rowOf(int page) {
            return Math.floorMod(page - 1, RING_BLOCKS);
        }

        static int placeOf(int page) {
            return HEAD_BLOCKS + rowOf(page);
        }

        void restart(int oldest) {
            open = 0;
            used = 0;
            next = oldest;
        }

        void openNext(int first) {
            open = next;
            next++;
            used = RECORDS_AT;
            int row = rowOf(open);
            rows.clear(row);
            rows.setU32(row, 0, open);
            rows.setU32(row, 4, first);
        }

        int takeNext(Blocks disk, int block) {
            int page = next;
            next++;
            rows.copyFrom(disk, block, rowOf(page), BLOCK_SIZE);
            return page;
        }

        /** The PAGE of the next RECORD to come, as far as can be told before it comes. */
        int coming() {
            return open != 0 ? open : next;
        }

        int openCount() {
            return open != 0 ? byteAt(open, 8) : 0;
        }

        boolean fits(int n) {
            return open != 0 && used + 2 + n <= CHECK_AT;
        }

        /** Answers where on the OPEN PAGE the RECORD begins. */
        int addRecord(int kind, Tape tape, int n) {
            int row = rowOf(open);
            int start = used;
            rows.set(row, start, kind);
            rows.set(row, start + 1, n);
            for (int i = 0; i < n; i++) {
                rows.set(row, start + 2 + i, tape.byteAt(i));
            }
            rows.set(row, 8, openCount() + 1);
            used += 2 + n;
            return start;
        }

        int byteAt(int page, int i) {
            return rows.get(rowOf(page), i);
        }
    }

    /** Where the RECORDS from KEPT on stand; 30 PAGES of 25 empty RECORDS are the most. */
    private static final class Records {
        private static final int MOST = 750;

        private final int[] pageBySlot = new int[MOST];
        private final int[] startBySlot = new int[MOST];
        private int kept;
        private int next;

        void restart(int first) {
            kept = first;
            next = first;
        }

        int count() {
            return next - kept;
        }

        int add(int page, int start) {
            int slot = slotOf(next);
            pageBySlot[slot] = page;
            startBySlot[slot] = start;
            next++;
            return next - 1;
        }

        int pageOf(int number) {
            return pageBySlot[slotOf(number)];
        }

        int startOf(int number) {
            return startBySlot[slotOf(number)];
        }

        private static int slotOf(int number) {
            return Math.floorMod(number, MOST);
        }
    }

    /** The bytes for the next RECORD; those lifted stay readable till the tape is used again. */
    private static final class Tape {
        private final byte[] bytes = new byte[MOST_RECORD_BYTES];
        private int length;

        boolean put(long word, int n) {
            if (n < 1 || n > 8 || length + n > bytes.length) {
                return false;
            }
            for (int i = n - 1; i >= 0; i--) {
                bytes[length] = (byte) (word >>> 8 * i);
                length++;
            }
            return true;
        }

        int lift() {
            int n = length;
            length = 0;
            return n;
        }

        int byteAt(int i) {
            return i >= 0 && i < bytes.length ? bytes[i] & 0xFF : 0;
        }
    }
}

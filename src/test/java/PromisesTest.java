/** Each promise by itself: ordinary inputs, the edges that the document names, wrong inputs. */
public final class PromisesTest {
    private static final int LOW = Integer.MIN_VALUE;
    private static final int HIGH = Integer.MAX_VALUE;

    private PromisesTest() { }

    public static void main(String[] args) {
        newObject();
        type();
        appendNumbersAndFits();
        appendWhenTheRingIsFull();
        appendRefuses();
        appendEmptiesTheTape();
        sync();
        keep();
        keepRefuses();
        crashDoesWritesInOrder();
        crashHalfwayThroughAWrite();
        crashRefuses();
        crashWithHeadsForged();
        crashWithPagesForged();
        crashFindsBytesAnew();
        crashWithoutHeads();
        crashWithManyPages();
        spoilAndDisk();
        record();
        write();
        total();
        Checks.end("PromisesTest");
    }

    private static void newObject() {
        RoundJournal x = new RoundJournal();
        Checks.dueTotals("new", x, 0, 1, 1, 1, 0, 0, 1, 1, 0, 2, RoundJournal.NONE);
        Checks.due("new, record", Checks.record(x, 0, 0), Checks.NO_SUCH_ELEMENT);
        Checks.due("new, write", Checks.write(x, 0, 0), Checks.NO_SUCH_ELEMENT);
        Checks.dueBlock("new", x, 1, Checks.head(1, 1, 1));
        for (int block = 0; block < 7; block++) {
            if (block != 1) {
                Checks.dueBlock("new", x, block, new byte[64]);
            }
        }
        RoundJournal y = new RoundJournal();
        for (int block = 7; block < 14; block++) {
            Checks.dueBlock("new", y, block, new byte[64]);
        }
        y = new RoundJournal();
        Checks.dueBlock("new", y, 31, new byte[64]);
        Checks.due("crash at once", Checks.crash(y, 0, 0), 0);
        Checks.dueTotals("crash at once", y, 0, 1, 1, 0, 0, 0, 1, 1, 1, 1, RoundJournal.NONE);
        Checks.due("the constant", RoundJournal.NONE, -1);
    }

    private static void type() {
        RoundJournal x = new RoundJournal();
        for (int n : new int[] {LOW, -1, 0, 9, HIGH}) {
            Checks.due("type(5, " + n + ")", x.type(5, n), false);
        }
        Checks.due("type 3", x.type(0xFFFFFFFFFF81FE03L, 3), true);
        Checks.due("type 8", x.type(0x8122334455667788L, 8), true);
        Checks.due("append", Checks.append(x, 9), 1);
        int[] want = {0x81, 0xFE, 0x03, 0x81, 0x22, 0x33, 0x44, 0x55, 0x66, 0x77, 0x88};
        Checks.due("bytes typed", Checks.record(x, 0, 2), want.length);
        for (int k = 0; k < want.length; k++) {
            Checks.due("byte " + k + " typed", Checks.record(x, 0, 4 + k), want[k]);
        }
        for (int i = 0; i < 4; i++) {
            Checks.due("type to 32", x.type(-1, 8), true);
        }
        Checks.due("type to 33", x.type(7, 1), true);
        Checks.due("type to 41", x.type(6, 8), false);
        Checks.due("type to 40", x.type(5, 7), true);
        Checks.due("type to 41 by one", x.type(4, 1), false);
        Checks.due("append 40 bytes", Checks.append(x, 255), 2);
        Checks.due("40 bytes", Checks.record(x, 1, 2), 40);
        Checks.due("byte 31", Checks.record(x, 1, 35), 255);
        Checks.due("byte 32", Checks.record(x, 1, 36), 7);
        Checks.due("byte 33", Checks.record(x, 1, 37), 0);
        Checks.due("byte 39", Checks.record(x, 1, 43), 5);
        Checks.due("type on an empty tape", x.type(1, 1), true);
    }

    private static void appendNumbersAndFits() {
        RoundJournal x = new RoundJournal();
        for (int i = 1; i <= 25; i++) {
            Checks.due("append without bytes", Checks.append(x, i), i);
        }
        Checks.dueTotals("a page of 25", x, 25, 1, 26, 1, 25, 0, 1, 1, 0, 2);
        Checks.due("append the 26th", Checks.append(x, 255), 26);
        Checks.dueTotals("the 26th on the next page", x, 26, 1, 27, 2, 1, 1, 1, 1, 0, 3);
        Checks.due("the 25th's page", Checks.record(x, 24, 3), 1);
        Checks.due("the 26th's page", Checks.record(x, 25, 3), 2);
        int[] kinds = new int[50];
        for (int i = 0; i < 25; i++) {
            kinds[2 * i] = i + 1;
        }
        Checks.dueWrite("the closed page", x, 0, 2, Checks.page(1, 1, 25, kinds));

        x = new RoundJournal();
        Checks.due("40 bytes", Checks.appendFilled(x, 1, 40, 3), 1);
        Checks.due("7 bytes fit just", Checks.appendFilled(x, 2, 7, 4), 2);
        Checks.due("they are on page 1", Checks.record(x, 1, 3), 1);
        x = new RoundJournal();
        Checks.due("40 bytes", Checks.appendFilled(x, 1, 40, 3), 1);
        Checks.due("8 bytes do not fit", Checks.appendFilled(x, 2, 8, 4), 2);
        Checks.due("they are on page 2", Checks.record(x, 1, 3), 2);
        Checks.due("nothing is on the disk yet", x.disk(2, 3), 0);
        Checks.due("sync", x.sync(), 2);
        Checks.dueBlock("page 2", x, 3, Checks.page(2, 2, 1, 2, 8, 4, 4, 4, 4, 4, 4, 4, 4));
    }

    private static void appendWhenTheRingIsFull() {
        RoundJournal x = fullRing();
        Checks.dueTotals("30 pages", x, 30, 1, 31, 30, 1, 29, 1, 1, 0, 31);
        Checks.due("the 31st page", Checks.appendFilled(x, 7, 8, 1), 0);
        Checks.dueTotals("the open page stays", x, 30, 1, 31, 30, 1, 29, 1, 1, 0, 31);
        Checks.due("what fits there still comes", Checks.appendFilled(x, 7, 7, 1), 31);
        Checks.due("sync", x.sync(), 30);
        Checks.due("no page can be open", Checks.append(x, 7), 0);
        Checks.dueTotals("none is open", x, 31, 1, 32, 0, 0, 0, 1, 1, 0, 31);
        Checks.due("keep", x.keep(2), true);
        Checks.due("the head only waits", Checks.append(x, 7), 0);
        Checks.due("sync the head", x.sync(), 1);
        Checks.due("page 31 can be open", Checks.append(x, 7), 32);
        Checks.due("its page", Checks.record(x, 30, 3), 31);
        Checks.due("sync page 31", x.sync(), 1);
        Checks.dueBlock("page 31 in page 1's block", x, 2, Checks.page(31, 32, 1, 7, 0));
        Checks.due("page 32 can't", Checks.append(x, 7), 0);
        Checks.due("found again, all the 30", Checks.crash(x, 0, 0), 31);
        Checks.dueTotals("found again", x, 31, 2, 33, 0, 0, 0, 2, 2, 1, 32);
        Checks.due("still full", Checks.append(x, 7), 0);
    }

    /** Each of the 30 PAGES that can be OPEN with a RECORD of 40 bytes: 180 calls. */
    private static RoundJournal fullRing() {
        RoundJournal x = new RoundJournal();
        for (int i = 1; i <= 30; i++) {
            Checks.due("append " + i, Checks.appendFilled(x, i, 40, i), i);
        }
        return x;
    }

    private static void appendRefuses() {
        RoundJournal x = new RoundJournal();
        for (int kind : new int[] {LOW, -1, 0, 256, 257, HIGH}) {
            Checks.due("append(" + kind + ")", Checks.append(x, kind), Checks.ILLEGAL_ARGUMENT);
        }
        Checks.dueTotals("nothing came", x, 0, 1, 1, 1, 0, 0, 1, 1, 0, 2);
        x = fortyWait();
        Checks.due("append with 40 waiting", Checks.append(x, 1), Checks.ILLEGAL_STATE);
        Checks.due("append(0) with 40 waiting", Checks.append(x, 0), Checks.ILLEGAL_ARGUMENT);
        Checks.dueTotals("nothing came", x, 2, 41, 43, 2, 17, 40, 1, 40, 0, 3);
        Checks.due("sync", x.sync(), 41);
        Checks.due("append then", Checks.append(x, 1), 43);
    }

    /** PAGE 1 and 39 HEADS wait; RECORDS 26 .. 42 are on the OPEN PAGE 2. */
    private static RoundJournal fortyWait() {
        RoundJournal x = new RoundJournal();
        for (int i = 1; i <= 42; i++) {
            Checks.due("append", Checks.append(x, 1), i);
        }
        for (int n = 2; n <= 40; n++) {
            Checks.due("keep(" + n + ")", x.keep(n), true);
        }
        Checks.due("keep(41) with 40 waiting", x.keep(41), false);
        Checks.due("crash is free with 40 waiting", Checks.crash(x, 1, 0), 25);
        x = new RoundJournal();
        for (int i = 1; i <= 42; i++) {
            x.append(1);
        }
        for (int n = 3; n <= 41; n++) {
            x.keep(n);
        }
        return x;
    }

    private static void appendEmptiesTheTape() {
        RoundJournal x = new RoundJournal();
        x.type(1, 5);
        Checks.due("append", Checks.append(x, 1), 1);
        Checks.due("append on an empty tape", Checks.append(x, 2), 2);
        Checks.due("no bytes", Checks.record(x, 1, 2), 0);
        x.type(1, 5);
        Checks.due("append(0)", Checks.append(x, 0), Checks.ILLEGAL_ARGUMENT);
        Checks.due("append then", Checks.append(x, 3), 3);
        Checks.due("no bytes", Checks.record(x, 2, 2), 0);

        x = fullRing();
        Checks.due("full", Checks.appendFilled(x, 7, 40, 1), 0);
        Checks.due("append then", Checks.append(x, 7), 31);
        Checks.due("no bytes", Checks.record(x, 30, 2), 0);

        x = fortyWait();
        x.type(1, 5);
        Checks.due("40 wait", Checks.append(x, 7), Checks.ILLEGAL_STATE);
        x.sync();
        Checks.due("append then", Checks.append(x, 7), 43);
        Checks.due("no bytes", Checks.record(x, 2, 2), 0);

        // the tape is not among what the document calls IN MEMORY
        x = new RoundJournal();
        x.type(1, 5);
        Checks.due("crash", Checks.crash(x, 0, 0), 0);
        Checks.due("append then", Checks.append(x, 7), 1);
        Checks.due("the tape's bytes", Checks.record(x, 0, 2), 5);
    }

    private static void sync() {
        RoundJournal x = new RoundJournal();
        Checks.due("sync of nothing", x.sync(), 0);
        Checks.dueTotals("page 1 stays open", x, 0, 1, 1, 1, 0, 0, 1, 1, 0, 2);
        x.type(0x0102, 2);
        Checks.due("append", Checks.append(x, 200), 1);
        Checks.due("append", Checks.append(x, 100), 2);
        Checks.due("sync", x.sync(), 1);
        Checks.dueBlock("sync", x, 2, Checks.page(1, 1, 2, 200, 2, 1, 2, 100, 0));
        Checks.dueTotals("none is open", x, 2, 1, 3, 0, 0, 0, 1, 1, 0, 2);
        Checks.due("sync again", x.sync(), 0);
        Checks.due("keep", x.keep(2), true);
        Checks.due("append", Checks.append(x, 50), 3);
        Checks.dueTotals("page 2 is open", x, 2, 2, 4, 2, 1, 1, 1, 2, 0, 3);
        Checks.due("sync", x.sync(), 2);
        Checks.dueBlock("sync", x, 0, Checks.head(2, 1, 2));
        Checks.dueBlock("sync", x, 1, Checks.head(1, 1, 1));
        Checks.dueBlock("sync", x, 3, Checks.page(2, 3, 1, 50, 0));
        // RECORDS needed no more still make a PAGE that has RECORDS
        Checks.due("append", Checks.append(x, 51), 4);
        Checks.due("keep", x.keep(5), true);
        Checks.due("sync", x.sync(), 2);
        Checks.dueBlock("sync", x, 1, Checks.head(3, 3, 5));
        Checks.due("page 3", x.disk(4, 3), 3);
    }

    private static void keep() {
        RoundJournal x = new RoundJournal();
        Checks.due("40 bytes", Checks.appendFilled(x, 1, 40, 3), 1);
        Checks.due("40 bytes", Checks.appendFilled(x, 2, 40, 4), 2);
        Checks.due("on page 2", Checks.append(x, 3), 3);
        Checks.due("keep(3)", x.keep(3), true);
        Checks.dueTotals("keep(3)", x, 1, 3, 4, 2, 2, 2, 1, 2, 0, 3);
        Checks.dueWrite("keep(3)", x, 1, 0, Checks.head(2, 2, 3));
        Checks.due("record 0 is KEPT", Checks.record(x, 0, 0), 3);
        Checks.due("record 1", Checks.record(x, 1, 0), Checks.NO_SUCH_ELEMENT);
        Checks.due("keep the next", x.keep(4), true);
        Checks.dueWrite("keep the next, page 2 open", x, 2, 1, Checks.head(3, 2, 4));
        Checks.dueTotals("no records", x, 0, 4, 4, 2, 2, 3, 1, 3, 0, 3);
        Checks.due("record 0", Checks.record(x, 0, 0), Checks.NO_SUCH_ELEMENT);
        Checks.due("sync", x.sync(), 4);
        Checks.due("oldest", x.total(6), 2);
        Checks.due("append on page 3", Checks.append(x, 4), 4);
        Checks.due("sync", x.sync(), 1);
        Checks.due("keep the next, none open", x.keep(5), true);
        Checks.dueWrite("keep the next, none open", x, 0, 0, Checks.head(4, 4, 5));
        Checks.due("oldest waits", x.total(6), 2);
        Checks.due("sync", x.sync(), 1);
        Checks.due("oldest is written", x.total(6), 4);
    }

    private static void keepRefuses() {
        RoundJournal x = new RoundJournal();
        for (int n : new int[] {LOW, -1, 0, 1, 2, HIGH}) {
            Checks.due("keep(" + n + ")", x.keep(n), false);
        }
        for (int i = 1; i <= 4; i++) {
            x.append(i);
        }
        Checks.due("keep(3)", x.keep(3), true);
        for (int n : new int[] {LOW, 0, 1, 2, 3, 6, HIGH}) {
            Checks.due("keep(" + n + ")", x.keep(n), false);
        }
        Checks.dueTotals("nothing changed", x, 2, 3, 5, 1, 4, 1, 1, 2, 0, 2);
        x = fortyWait();
        Checks.due("keep with 40 waiting", x.keep(42), false);
        Checks.dueTotals("nothing changed", x, 2, 41, 43, 2, 17, 40, 1, 40, 0, 3);
    }

    /** PAGES 1 .. 3 with RECORDS 1 .. 3, and a HEAD (OLDEST 2, KEPT 2) between PAGES 2 and 3, wait; 4 is on PAGE 4. */
    private static RoundJournal fourWait() {
        RoundJournal x = new RoundJournal();
        Checks.appendFilled(x, 1, 40, 1);
        Checks.appendFilled(x, 2, 40, 2);
        Checks.appendFilled(x, 3, 40, 3);
        x.keep(2);
        Checks.appendFilled(x, 4, 40, 4);
        Checks.due("four wait", x.total(5), 4);
        return x;
    }

    private static void crashDoesWritesInOrder() {
        int[][] totals = {
            {0, 1, 1, 0, 0, 0, 1, 1, 1, 1},
            {1, 1, 2, 0, 0, 0, 1, 1, 1, 2},
            {2, 1, 3, 0, 0, 0, 1, 1, 1, 3},
            {1, 2, 3, 0, 0, 0, 2, 2, 1, 3},
            {2, 2, 4, 0, 0, 0, 2, 2, 1, 4},
            {2, 2, 4, 0, 0, 0, 2, 2, 1, 4}};
        for (int k = 0; k <= 5; k++) {
            RoundJournal x = fourWait();
            Checks.due("crash(" + k + ", 0)", Checks.crash(x, k, 0), totals[k][0]);
            Checks.dueTotals("crash(" + k + ", 0)", x, totals[k]);
            if (k > 0) {
                int c = k - 1;
                x = fourWait();
                Checks.due("crash(" + c + ", 64)", Checks.crash(x, c, 64), totals[k][0]);
                Checks.dueTotals("crash(" + c + ", 64)", x, totals[k]);
            }
        }
        RoundJournal x = fourWait();
        Checks.due("crash(all, 64)", Checks.crash(x, HIGH, 64), 2);
        Checks.due("record 2", Checks.record(x, 0, 0), 2);
        Checks.due("its kind", Checks.record(x, 0, 1), 2);
        Checks.due("its length", Checks.record(x, 0, 2), 40);
        Checks.due("its page", Checks.record(x, 0, 3), 2);
        Checks.due("its last byte", Checks.record(x, 0, 43), 2);
        Checks.due("its 41st byte", Checks.record(x, 0, 44), Checks.NO_SUCH_ELEMENT);
        Checks.due("record 3's page", Checks.record(x, 1, 3), 3);
        Checks.due("append", Checks.append(x, 9), 4);
        Checks.dueTotals("page 4 is open", x, 3, 2, 5, 4, 1, 0, 2, 2, 1, 5);
        Checks.due("keep the next TURN", x.keep(3), true);
        Checks.dueWrite("keep", x, 0, 1, Checks.head(3, 3, 3));
    }

    private static void crashHalfwayThroughAWrite() {
        for (int c = 0; c <= 64; c++) {
            RoundJournal x = new RoundJournal();
            Checks.appendFilled(x, 1, 40, 0xAB);
            Checks.appendFilled(x, 2, 40, 0xCD);
            byte[] want = new byte[64];
            int[] bytes = new int[42];
            java.util.Arrays.fill(bytes, 0xAB);
            bytes[0] = 1;
            bytes[1] = 40;
            System.arraycopy(Checks.page(1, 1, 1, bytes), 0, want, 0, c);
            Checks.due("crash(0, " + c + ")", Checks.crash(x, 0, c), c == 64 ? 1 : 0);
            Checks.dueBlock("crash(0, " + c + ")", x, 2, want);
        }
        // a HEAD half over an older one leaves the other HEAD
        RoundJournal x = new RoundJournal();
        for (int i = 1; i <= 4; i++) {
            x.append(i);
        }
        x.sync();
        x.keep(2);
        x.keep(3);
        Checks.due("HEAD 3 half over HEAD 1", Checks.crash(x, 1, 62), 3);
        Checks.dueTotals("HEAD 2 is left", x, 3, 2, 5, 0, 0, 0, 1, 2, 1, 2);
        Checks.due("keep tells TURN 3 anew", x.keep(5), true);
        Checks.dueWrite("keep", x, 0, 1, Checks.head(3, 2, 5));
    }

    private static void crashRefuses() {
        RoundJournal x = fourWait();
        int[][] wrong = {{-1, 0}, {LOW, 64}, {0, -1}, {0, 65}, {0, LOW}, {HIGH, HIGH}, {-1, -1}};
        for (int[] kc : wrong) {
            Checks.due("crash(" + kc[0] + ", " + kc[1] + ")", Checks.crash(x, kc[0], kc[1]), Checks.ILLEGAL_ARGUMENT);
        }
        Checks.dueTotals("nothing changed", x, 3, 2, 5, 4, 1, 4, 1, 2, 0, 5);
        for (int i = 1; i <= 300; i++) {
            Checks.due("crash " + i, Checks.crash(x, HIGH, 0), 2);
        }
        Checks.due("append", Checks.append(x, 9), 4);
        Checks.due("crash 301", Checks.crash(x, 0, 0), Checks.ILLEGAL_STATE);
        Checks.due("crash 301, wrong", Checks.crash(x, 0, 65), Checks.ILLEGAL_ARGUMENT);
        Checks.dueTotals("nothing changed", x, 3, 2, 5, 4, 1, 0, 2, 2, 300, 5);
    }

    private static void dueHeadFound(String call, byte[] even, byte[] odd, int turn, int oldest, int kept) {
        RoundJournal x = new RoundJournal();
        Checks.forge(x, 0, even);
        Checks.forge(x, 1, odd);
        Checks.due(call, Checks.crash(x, 0, 0), 0);
        Checks.dueTotals(call, x, 0, kept, kept, 0, 0, 0, oldest, turn, 1, oldest);
        Checks.due(call + ", append", Checks.append(x, 1), kept);
        Checks.due(call + ", keep", x.keep(kept + 1), true);
        Checks.dueWrite(call + ", keep", x, 0, (turn + 1) % 2, Checks.head(turn + 1, oldest, kept + 1));
    }

    private static void crashWithHeadsForged() {
        byte[] zero = new byte[64];
        byte[] one = Checks.head(1, 1, 1);
        int most = 1000000;
        dueHeadFound("no HEAD", zero, zero, 0, 1, 1);
        dueHeadFound("the greater TURN, even", Checks.head(8, 5, 6), Checks.head(7, 3, 4), 8, 5, 6);
        dueHeadFound("the greater TURN, odd", Checks.head(6, 5, 6), Checks.head(7, 3, 4), 7, 3, 4);
        dueHeadFound("a TURN for the other BLOCK", Checks.head(7, 3, 4), Checks.head(8, 5, 6), 0, 1, 1);
        dueHeadFound("TURN 0", Checks.head(0, 3, 4), one, 1, 1, 1);
        dueHeadFound("the greatest of all", Checks.head(most, most, most), one, most, most, most);
        dueHeadFound("TURN too great", Checks.head(most + 2, 3, 4), one, 1, 1, 1);
        dueHeadFound("TURN beyond the ints", Checks.head(-2, 3, 4), one, 1, 1, 1);
        dueHeadFound("OLDEST 0", Checks.head(2, 0, 4), one, 1, 1, 1);
        dueHeadFound("OLDEST too great", Checks.head(2, most + 1, 4), one, 1, 1, 1);
        dueHeadFound("OLDEST beyond the ints", Checks.head(2, -5, 4), one, 1, 1, 1);
        dueHeadFound("KEPT 0", Checks.head(2, 3, 0), one, 1, 1, 1);
        dueHeadFound("KEPT too great", Checks.head(2, 3, most + 1), one, 1, 1, 1);
        dueHeadFound("KEPT beyond the ints", Checks.head(2, 3, -7), one, 1, 1, 1);
        byte[] bad = Checks.head(2, 3, 4);
        bad[63] ^= 1;
        dueHeadFound("a CHECK that is wrong", bad, one, 1, 1, 1);
        byte[] more = Checks.head(2, 3, 4);
        more[12] = 1;
        dueHeadFound("other bytes that are not 0", Checks.sealed(more), one, 2, 3, 4);
    }

    private static RoundJournal forged(byte[] head, byte[]... pages) {
        RoundJournal x = new RoundJournal();
        Checks.forge(x, 0, head);
        for (int i = 0; i < pages.length; i++) {
            Checks.forge(x, 2 + i, pages[i]);
        }
        return x;
    }

    private static void duePagesFound(String call, int want, int next, int nextPage, byte[] head, byte[]... pages) {
        RoundJournal x = forged(head, pages);
        Checks.due(call, Checks.crash(x, 0, 0), want);
        Checks.due(call + ", next RECORD", x.total(2), next);
        Checks.due(call + ", next PAGE", x.total(9), nextPage);
    }

    private static void crashWithPagesForged() {
        byte[] head = Checks.head(2, 1, 5);
        byte[] first = Checks.page(1, 4, 2, 1, 0, 2, 1, 9);
        duePagesFound("two PAGES", 2, 7, 3, head, first, Checks.page(2, 6, 1, 3, 0));
        duePagesFound("FIRST too small", 1, 6, 2, head, first, Checks.page(2, 5, 1, 3, 0));
        duePagesFound("FIRST too great", 1, 6, 2, head, first, Checks.page(2, 7, 1, 3, 0));
        duePagesFound("another NUMBER", 1, 6, 2, head, first, Checks.page(32, 6, 1, 3, 0));
        duePagesFound("NUMBER beyond", 1, 6, 2, head, first, Checks.page(0x80000002, 6, 1, 3, 0));
        duePagesFound("KIND 0", 1, 6, 2, head, first, Checks.page(2, 6, 1, 0, 0));
        duePagesFound("41 bytes", 1, 6, 2, head, first, Checks.page(2, 6, 1, 3, 41));
        duePagesFound("40 bytes", 2, 7, 3, head, first, Checks.page(2, 6, 1, 3, 40));
        int[] behind40 = new int[44];
        behind40[0] = 3;
        behind40[1] = 40;
        behind40[42] = 255;
        behind40[43] = 7;
        duePagesFound("up to byte 59", 3, 8, 3, head, first, Checks.page(2, 6, 2, behind40));
        behind40[43] = 8;
        duePagesFound("beyond byte 59", 1, 6, 2, head, first, Checks.page(2, 6, 2, behind40));
        int[] last = new int[51];
        last[0] = 3;
        last[1] = 40;
        last[42] = 4;
        last[43] = 5;
        last[49] = 255;
        duePagesFound("an empty RECORD up to byte 59", 4, 9, 3, head, first, Checks.page(2, 6, 3, last));
        last[43] = 6;
        last[50] = 255;
        duePagesFound("half a RECORD at byte 59", 1, 6, 2, head, first, Checks.page(2, 6, 3, last));
        int[] many = new int[51];
        java.util.Arrays.fill(many, 1);
        for (int i = 0; i < 25; i++) {
            many[2 * i + 1] = 0;
        }
        duePagesFound("25 RECORDS", 26, 31, 3, head, first, Checks.page(2, 6, 25, many));
        duePagesFound("26 RECORDS", 1, 6, 2, head, first, Checks.page(2, 6, 26, many));
        duePagesFound("255 RECORDS", 1, 6, 2, head, first, Checks.page(2, 6, 255, many));
        byte[] more = Checks.page(2, 6, 1, 3, 0);
        more[59] = 1;
        duePagesFound("other bytes that are not 0", 2, 7, 3, head, first, Checks.sealed(more));
        byte[] bad = Checks.page(2, 6, 1, 3, 0);
        bad[60] ^= 128;
        duePagesFound("a CHECK that is wrong", 1, 6, 2, head, first, bad);
        duePagesFound("no RECORDS", 2, 7, 4, head, first, Checks.page(2, 6, 0), Checks.page(3, 6, 1, 3, 0));

        duePagesFound("FIRST above KEPT", 0, 5, 1, head, Checks.page(1, 6, 1, 1, 0));
        duePagesFound("FIRST is KEPT", 1, 6, 2, head, Checks.page(1, 5, 1, 1, 0));
        duePagesFound("FIRST 0", 0, 5, 1, head, Checks.page(1, 0, 9, many));
        duePagesFound("FIRST beyond the ints", 0, 5, 1, head, Checks.page(1, -1, 9, many));
        duePagesFound("all are below KEPT", 0, 5, 2, head, Checks.page(1, 2, 1, 1, 0));
        duePagesFound("all are below KEPT but on the second", 2, 7, 3, head,
            Checks.page(1, 1, 3, many), Checks.page(2, 4, 3, many));
        int most = 1000000;
        byte[] far = Checks.head(2, 1, most);
        duePagesFound("FIRST at most", 2, most + 2, 3, far,
            Checks.page(1, most - 1, 1, 1, 0), Checks.page(2, most, 2, many));
        duePagesFound("FIRST beyond the most", 1, most + 1, 2, far,
            Checks.page(1, most, 1, 1, 0), Checks.page(2, most + 1, 1, 1, 0));
        byte[] late = Checks.head(2, most, 1);
        RoundJournal x = new RoundJournal();
        Checks.forge(x, 0, late);
        Checks.forge(x, 2 + (most - 1) % 30, Checks.page(most, 1, 1, 1, 0));
        Checks.forge(x, 2 + most % 30, Checks.page(most + 1, 2, 1, 1, 0));
        Checks.due("PAGES beyond the most", Checks.crash(x, 0, 0), 2);
        Checks.due("the next PAGE", x.total(9), most + 2);
    }

    private static void crashFindsBytesAnew() {
        RoundJournal x = forged(Checks.head(2, 1, 5), Checks.page(1, 4, 3, 1, 2, 0xEE, 0xDD, 2, 0, 255, 3, 7, 0xFF, 9),
            Checks.page(2, 7, 2, 6, 1, 77, 5, 2, 0, 1));
        Checks.due("crash", Checks.crash(x, 0, 0), 4);
        int[][] want = {{5, 2, 0, 1}, {6, 255, 3, 1, 7, 255, 9}, {7, 6, 1, 2, 77}, {8, 5, 2, 2, 0, 1}};
        for (int i = 0; i < want.length; i++) {
            for (int what = 0; what < want[i].length; what++) {
                Checks.due("record(" + i + ", " + what + ")", Checks.record(x, i, what), want[i][what]);
            }
            Checks.due("no byte more", Checks.record(x, i, want[i].length), Checks.NO_SUCH_ELEMENT);
        }
        Checks.due("append", Checks.append(x, 8), 9);
        Checks.due("the next PAGE", Checks.record(x, 4, 3), 3);
        Checks.due("sync", x.sync(), 1);
        Checks.dueBlock("the next PAGE", x, 4, Checks.page(3, 9, 1, 8, 0));
        Checks.due("keep on the first PAGE", x.keep(6), true);
        Checks.dueWrite("keep on the first PAGE", x, 0, 1, Checks.head(3, 1, 6));
    }

    private static void crashWithoutHeads() {
        RoundJournal x = new RoundJournal();
        Checks.appendFilled(x, 1, 40, 1);
        Checks.appendFilled(x, 2, 40, 2);
        x.keep(2);
        x.sync();
        Checks.dueTotals("HEAD 2", x, 1, 2, 3, 0, 0, 0, 2, 2, 0, 3);
        x.spoil(0, 63, x.disk(0, 63) ^ 1);
        x.spoil(1, 63, x.disk(1, 63) ^ 1);
        Checks.due("found from PAGE 1 on", Checks.crash(x, 0, 0), 2);
        Checks.dueTotals("no HEAD", x, 2, 1, 3, 0, 0, 0, 1, 0, 1, 3);
        Checks.due("keep", x.keep(3), true);
        Checks.dueWrite("TURN 1 anew", x, 0, 1, Checks.head(1, 3, 3));
    }

    private static void crashWithManyPages() {
        RoundJournal x = fullRing();
        x.sync();
        Checks.due("30 PAGES", Checks.crash(x, 0, 0), 30);
        Checks.dueTotals("30 PAGES", x, 30, 1, 31, 0, 0, 0, 1, 1, 1, 31);
        for (int i = 0; i < 30; i++) {
            Checks.due("number " + i, Checks.record(x, i, 0), i + 1);
            Checks.due("page " + i, Checks.record(x, i, 3), i + 1);
            Checks.due("byte of " + i, Checks.record(x, i, 43), i + 1);
        }
        x.spoil(12, 20, x.disk(12, 20) ^ 1);
        Checks.due("memory is not the DISK", Checks.record(x, 10, 43), 11);
        Checks.due("PAGE 11 spoilt", Checks.crash(x, 0, 0), 10);
        Checks.dueTotals("PAGE 11 spoilt", x, 10, 1, 11, 0, 0, 0, 1, 1, 2, 11);
    }

    private static void spoilAndDisk() {
        RoundJournal x = new RoundJournal();
        int[][] none = {{-1, 0}, {32, 0}, {0, -1}, {0, 64}, {LOW, LOW}, {HIGH, HIGH}, {31, 64}, {1, LOW}, {HIGH, 3}};
        for (int[] at : none) {
            Checks.due("spoil none", x.spoil(at[0], at[1], 5), false);
            Checks.due("disk none", x.disk(at[0], at[1]), RoundJournal.NONE);
        }
        Checks.dueBlock("nothing spoilt", x, 0, new byte[64]);
        Checks.dueBlock("nothing spoilt", x, 1, Checks.head(1, 1, 1));
        Checks.due("spoil", x.spoil(31, 63, 0x1FF), true);
        Checks.due("disk", x.disk(31, 63), 255);
        Checks.due("spoil", x.spoil(0, 0, -256), true);
        Checks.due("disk", x.disk(0, 0), 0);
        Checks.due("spoil", x.spoil(0, 0, -128), true);
        Checks.due("disk", x.disk(0, 0), 128);
        Checks.due("spoil the HEAD", x.spoil(1, 11, 2), true);
        Checks.dueTotals("memory is as it was", x, 0, 1, 1, 1, 0, 0, 1, 1, 0, 2);
        Checks.due("crash", Checks.crash(x, 0, 0), 0);
        Checks.dueTotals("no HEAD", x, 0, 1, 1, 0, 0, 0, 1, 0, 1, 1);
    }

    private static void record() {
        RoundJournal x = new RoundJournal();
        x.append(255);
        x.type(0x80FF, 2);
        x.append(7);
        x.keep(2);
        String[] want = {"2", "7", "2", "1", "128", "255", Checks.NO_SUCH_ELEMENT};
        for (int what = 0; what < want.length; what++) {
            Checks.due("record(0, " + what + ")", Checks.record(x, 0, what), want[what]);
        }
        int[][] none = {{0, -1}, {0, LOW}, {0, HIGH}, {-1, 0}, {1, 0}, {LOW, 0}, {HIGH, 0}};
        for (int[] at : none) {
            Checks.due("record(" + at[0] + ", " + at[1] + ")", Checks.record(x, at[0], at[1]), Checks.NO_SUCH_ELEMENT);
        }
        x.append(255);
        Checks.due("KIND 255", Checks.record(x, 1, 1), 255);
        Checks.due("no bytes", Checks.record(x, 1, 2), 0);
        Checks.due("no byte 0", Checks.record(x, 1, 4), Checks.NO_SUCH_ELEMENT);
    }

    private static void write() {
        RoundJournal x = fourWait();
        int[] places = {2, 3, 0, 4};
        for (int i = 0; i < 4; i++) {
            Checks.due("write(" + i + ", 0)", Checks.write(x, i, 0), places[i]);
        }
        Checks.dueWrite("the HEAD", x, 2, 0, Checks.head(2, 2, 2));
        int[][] none = {{0, -1}, {0, 65}, {0, LOW}, {0, HIGH}, {-1, 0}, {4, 0}, {LOW, 0}, {HIGH, 64}};
        for (int[] at : none) {
            Checks.due("write(" + at[0] + ", " + at[1] + ")", Checks.write(x, at[0], at[1]), Checks.NO_SUCH_ELEMENT);
        }
        x.sync();
        Checks.due("none waits", Checks.write(x, 0, 0), Checks.NO_SUCH_ELEMENT);
    }

    private static void total() {
        RoundJournal x = fourWait();
        Checks.dueTotals("four wait", x, 3, 2, 5, 4, 1, 4, 1, 2, 0, 5, RoundJournal.NONE);
        for (int what : new int[] {LOW, -1, 10, 11, HIGH}) {
            Checks.due("total(" + what + ")", x.total(what), RoundJournal.NONE);
        }
        Checks.due("sync", x.sync(), 5);
        Checks.dueTotals("synced", x, 3, 2, 5, 0, 0, 0, 2, 2, 0, 5);
        Checks.due("crash", Checks.crash(x, 0, 0), 3);
        Checks.dueTotals("found", x, 3, 2, 5, 0, 0, 0, 2, 2, 1, 5);
        x.keep(5);
        Checks.due("a TURN that waits counts", x.total(7), 3);
        Checks.due("crash", Checks.crash(x, 0, 3), 3);
        Checks.due("a TURN that is no more does not", x.total(7), 2);
        Checks.due("CRASHES", x.total(8), 2);
    }
}

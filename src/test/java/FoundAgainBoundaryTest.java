import java.util.Arrays;

/** Promise 6, how it is FOUND AGAIN from the DISK, sentence by sentence where one names a boundary case. */
public final class FoundAgainBoundaryTest {
    private static final int MOST = 1000000;
    private static final byte[] ZERO = new byte[64];
    private static final byte[] HEAD_1 = Checks.head(1, 1, 1);
    /** OLDEST 1, KEPT 5, and PAGE 1 with RECORDS 4 and 5. */
    private static final byte[] HEAD = Checks.head(2, 1, 5);
    private static final byte[] PAGE_1 = Checks.page(1, 4, 2, 1, 0, 2, 1, 9);

    private FoundAgainBoundaryTest() { }

    public static void main(String[] args) {
        eachBitOfAHead();
        eachBitOfAPage();
        turnForItsBlock();
        greatestAndLeastNumbersOfAHead();
        greaterTurn();
        withoutAHead();
        noPage();
        pageHasItsNumber();
        firstOfTheFirstPage();
        firstOfALaterPage();
        greatestFirst();
        kinds();
        lengths();
        withinBytes9To59();
        howManyRecords();
        pageWithoutRecords();
        otherBytes();
        recordsFromKeptOn();
        numberOfTheNextRecord();
        thirtyPages();
        pagesGoRound();
        upToThePageThatIsNotWhole();
        pagesLeftBehindAHole();
        noPageIsOpen();
        Checks.end("FoundAgainBoundaryTest");
    }

    // Promise 6, Terms: "it is WHOLE, if its CHECK is right": one bit of HEAD 2 is another, and HEAD 1 is FOUND
    private static void eachBitOfAHead() {
        byte[] head = Checks.head(2, 1, 2);
        for (int bit = 0; bit < 512; bit++) {
            Journal x = new Journal().append(7).due(1).keep(2).due(true).sync().due(2);
            x.spoil(0, bit / 8, head[bit / 8] ^ 1 << bit % 8).due(true).crash(0, 0).due(1).total(7).due(1);
        }
        new Journal().append(7).due(1).keep(2).due(true).sync().due(2).crash(0, 0).due(0).total(7).due(2);
    }

    // Promise 6, Terms: "as long as they are WHOLE": one bit of PAGE 2 is another
    private static void eachBitOfAPage() {
        byte[] page = Checks.filledPage(2);
        for (int bit = 0; bit < 512; bit++) {
            Journal x = new Journal().appendPages(1, 2).sync().due(2);
            x.spoil(3, bit / 8, page[bit / 8] ^ 1 << bit % 8).due(true).crash(0, 0).due(1).total(9).due(2);
        }
        new Journal().appendPages(1, 2).sync().due(2).crash(0, 0).due(2).total(9).due(3);
    }

    private static void dueHead(byte[] even, byte[] odd, int turn, int oldest, int kept) {
        Journal x = new Journal().forge(0, even).forge(1, odd).crash(0, 0).due(0);
        x.dueTotals(0, kept, kept, 0, 0, 0, oldest, turn, 1, oldest);
        x.append(7).due(kept).record(0, 3).due(oldest).keep(kept + 1).due(true);
        x.dueWrite(0, (turn + 1) % 2, Checks.head(turn + 1, oldest, kept + 1));
    }

    // Promise 6, Terms: "(with a TURN for their BLOCK; ..)"
    private static void turnForItsBlock() {
        dueHead(Checks.head(2, 3, 4), HEAD_1, 2, 3, 4);
        dueHead(Checks.head(3, 3, 4), HEAD_1, 1, 1, 1);
        dueHead(ZERO, Checks.head(3, 3, 4), 3, 3, 4);
        dueHead(ZERO, Checks.head(2, 3, 4), 0, 1, 1);
        dueHead(Checks.head(1, 3, 4), Checks.head(2, 5, 6), 0, 1, 1);
    }

    // Promise 6, Terms: "TURN, OLDEST, KEPT 1 .. 1000000"
    private static void greatestAndLeastNumbersOfAHead() {
        dueHead(Checks.head(MOST, 3, 4), HEAD_1, MOST, 3, 4);
        dueHead(HEAD_1, Checks.head(MOST - 1, 3, 4), MOST - 1, 3, 4);
        dueHead(Checks.head(MOST + 2, 3, 4), HEAD_1, 1, 1, 1);
        dueHead(Checks.head(2, 3, 4), Checks.head(MOST + 1, 5, 6), 2, 3, 4);
        dueHead(Checks.head(0, 3, 4), ZERO, 0, 1, 1);
        dueHead(Checks.sealed(new byte[64]), HEAD_1, 1, 1, 1);
        int[] wrongTurns = {0, MOST + 2, 1 << 24, Integer.MAX_VALUE - 1, Integer.MIN_VALUE, Integer.MIN_VALUE + 2, -2};
        for (int turn : wrongTurns) {
            dueHead(Checks.head(turn, 3, 4), HEAD_1, 1, 1, 1);
        }
        int[] wrong = {0, MOST + 1, 1 << 24, Integer.MAX_VALUE, Integer.MIN_VALUE, Integer.MIN_VALUE + 1, -1};
        for (int number : wrong) {
            dueHead(Checks.head(2, number, 4), HEAD_1, 1, 1, 1);
            dueHead(Checks.head(2, 3, number), HEAD_1, 1, 1, 1);
        }
        int[] good = {1, 2, MOST - 1, MOST};
        for (int number : good) {
            dueHead(Checks.head(2, number, 4), HEAD_1, 2, number, 4);
            dueHead(Checks.head(2, 3, number), HEAD_1, 2, 3, number);
        }
    }

    // Promise 6, Terms: "of the two HEADS that are WHOLE .. the one of the greater TURN": by one, by all
    private static void greaterTurn() {
        dueHead(Checks.head(2, 3, 4), Checks.head(1, 5, 6), 2, 3, 4);
        dueHead(Checks.head(2, 3, 4), Checks.head(3, 5, 6), 3, 5, 6);
        dueHead(Checks.head(256, 3, 4), Checks.head(255, 5, 6), 256, 3, 4);
        dueHead(Checks.head(MOST, 3, 4), Checks.head(1, 5, 6), MOST, 3, 4);
        dueHead(Checks.head(2, 3, 4), Checks.head(MOST - 1, 5, 6), MOST - 1, 5, 6);
        byte[] half = Arrays.copyOf(Arrays.copyOf(Checks.head(4, 3, 4), 60), 64);
        dueHead(half, Checks.head(3, 5, 6), 3, 5, 6);
    }

    // Promise 6, Terms: "(without one: TURN 0, OLDEST 1, KEPT 1)": PAGES are looked for from 1 on, TURN 1 is the next
    private static void withoutAHead() {
        dueHead(ZERO, ZERO, 0, 1, 1);
        Journal x = new Journal().appendPages(1, 3).keep(3).due(true).sync().due(4);
        x.spoil(0, 60, ~Checks.head(2, 3, 3)[60]).spoil(1, 60, ~HEAD_1[60]);
        x.crash(0, 0).due(3).dueTotals(3, 1, 4, 0, 0, 0, 1, 0, 1, 4);
        x.keep(2).due(true).dueWrite(0, 1, Checks.head(1, 2, 2));
    }

    /** The PAGES lie where those from the HEAD's OLDEST on belong. */
    private static Journal forged(byte[] head, int oldest, byte[]... pages) {
        Journal x = new Journal().forge(0, head);
        for (int i = 0; i < pages.length; i++) {
            x.forge(2 + (oldest - 1 + i) % 30, pages[i]);
        }
        return x;
    }

    private static void dueFound(int records, int next, int nextPage, byte[] head, byte[]... pages) {
        Journal x = forged(head, 1, pages).crash(0, 0).due(records);
        x.total(0).due(records).total(2).due(next).total(9).due(nextPage);
        x.record(records, 0).due(Checks.NO_SUCH_ELEMENT).append(7).due(next).record(records, 3).due(nextPage);
    }

    // Promise 6, Terms: "The next RECORD has the number .. (KEPT, if there is no PAGE ..)"; the next PAGE is OLDEST
    private static void noPage() {
        dueFound(0, 5, 1, HEAD);
        dueFound(0, 5, 1, HEAD, ZERO, Checks.page(2, 5, 1, 1, 0));
        Journal x = forged(Checks.head(2, 17, 9), 17).crash(0, 0).due(0).dueTotals(0, 9, 9, 0, 0, 0, 17, 2, 1, 17);
        x.append(7).due(9).sync().due(1).dueBlock(18, Checks.page(17, 9, 1, 7, 0)).crash(0, 0).due(1);
    }

    // Promise 6, Terms: "have their NUMBER": not one less or more, nor the one that lay there a round before
    private static void pageHasItsNumber() {
        dueFound(2, 7, 3, HEAD, PAGE_1, Checks.page(2, 6, 1, 3, 0));
        int[] wrong = {0, 1, 3, 32, -28, 2 + (1 << 8), 2 + (1 << 16), 2 + (1 << 24), 2 + (1 << 31), -1};
        for (int number : wrong) {
            dueFound(1, 6, 2, HEAD, PAGE_1, Checks.page(number, 6, 1, 3, 0));
        }
        dueFound(0, 5, 1, HEAD, Checks.page(31, 4, 2, 1, 0, 2, 0));
        Journal x = forged(Checks.head(2, 31, 5), 31, Checks.page(1, 5, 1, 1, 0)).crash(0, 0).due(0).total(9).due(31);
        x.append(7).due(5).record(0, 3).due(31);
    }

    // Promise 6, Terms: "as FIRST (1 .. 1000000) .. (the first of them: not above KEPT)"
    private static void firstOfTheFirstPage() {
        dueFound(1, 6, 2, HEAD, Checks.page(1, 5, 1, 1, 0));
        dueFound(0, 5, 1, HEAD, Checks.page(1, 6, 1, 1, 0));
        dueFound(0, 5, 1, HEAD, Checks.page(1, MOST, 1, 1, 0));
        dueFound(1, 6, 2, HEAD, Checks.page(1, 1, 5, 1, 0, 1, 0, 1, 0, 1, 0, 1, 0));
        dueFound(0, 5, 1, HEAD, Checks.page(1, 0, 6, 1, 0, 1, 0, 1, 0, 1, 0, 1, 0, 1, 0));
        dueFound(0, 5, 1, HEAD, Checks.page(1, -1, 7, 1, 0, 1, 0, 1, 0, 1, 0, 1, 0, 1, 0, 1, 0));
        dueFound(0, 5, 1, HEAD, Checks.page(1, Integer.MIN_VALUE, 1, 1, 0));
        dueFound(0, 5, 1, HEAD, Checks.page(1, Integer.MIN_VALUE + 5, 1, 1, 0));
    }

    // Promise 6, Terms: "as FIRST .. the number behind the last RECORD ahead": not one less, not one more
    private static void firstOfALaterPage() {
        dueFound(3, 8, 3, HEAD, PAGE_1, Checks.page(2, 6, 2, 3, 0, 4, 0));
        int[] wrong = {0, 1, 4, 5, 7, 6 + (1 << 24), 6 + (1 << 31), -1};
        for (int first : wrong) {
            dueFound(1, 6, 2, HEAD, PAGE_1, Checks.page(2, first, 2, 3, 0, 4, 0));
        }
        // "not above KEPT" is asked of the first PAGE alone, and is not enough for a later one
        dueFound(0, 5, 2, HEAD, Checks.page(1, 1, 1, 1, 0), Checks.page(2, 3, 3, 3, 0, 4, 0, 5, 0));
        dueFound(1, 6, 3, HEAD, Checks.page(1, 1, 2, 1, 0, 2, 0), Checks.page(2, 3, 3, 3, 0, 4, 0, 5, 0));
    }

    // Promise 6, Terms: "as FIRST (1 .. 1000000)"
    private static void greatestFirst() {
        byte[] head = Checks.head(2, 1, MOST);
        dueFound(1, MOST + 1, 2, head, Checks.page(1, MOST, 1, 1, 0));
        dueFound(25, MOST + 25, 2, head, Checks.page(1, MOST, 25, emptyRecords(25)));
        dueFound(1, MOST + 1, 3, head, Checks.page(1, MOST - 1, 1, 1, 0), Checks.page(2, MOST, 1, 1, 0));
        dueFound(1, MOST + 1, 2, head, Checks.page(1, MOST, 1, 1, 0), Checks.page(2, MOST + 1, 1, 1, 0));
        byte[] beyond = Checks.page(2, MOST + 2, 1, 1, 0);
        dueFound(2, MOST + 2, 2, head, Checks.page(1, MOST - 1, 3, 1, 0, 1, 0, 1, 0), beyond);
    }

    private static int[] emptyRecords(int n) {
        int[] bytes = new int[51];
        for (int i = 0; i < Math.min(n, 25); i++) {
            bytes[2 * i] = 1 + i;
        }
        return bytes;
    }

    // Promise 6, Terms: "RECORDS as told (KIND not 0, ..)": the first, one in the middle, the last of a PAGE
    private static void kinds() {
        dueFound(4, 9, 3, HEAD, PAGE_1, Checks.page(2, 6, 3, 1, 0, 128, 0, 255, 0));
        dueFound(1, 6, 2, HEAD, PAGE_1, Checks.page(2, 6, 3, 0, 0, 128, 0, 255, 0));
        dueFound(1, 6, 2, HEAD, PAGE_1, Checks.page(2, 6, 3, 1, 0, 0, 0, 255, 0));
        dueFound(1, 6, 2, HEAD, PAGE_1, Checks.page(2, 6, 3, 1, 0, 128, 0, 0, 0));
        dueFound(3, 8, 3, HEAD, PAGE_1, Checks.page(2, 6, 2, 1, 0, 128, 0, 0, 0));
    }

    // Promise 6, Terms: "(.. at most 40 bytes ..)"
    private static void lengths() {
        int[] lengths = {0, 39, 40, 41, 49, 50, 127, 128, 255};
        for (int n : lengths) {
            dueFound(n <= 40 ? 2 : 1, n <= 40 ? 7 : 6, n <= 40 ? 3 : 2, HEAD, PAGE_1, Checks.page(2, 6, 1, 3, n));
        }
    }

    // Promise 6, Terms: "(.. within bytes 9 .. 59)": the last byte at 59, at 60; a KIND at 58 and at 59
    private static void withinBytes9To59() {
        for (int n = 0; n <= 40; n++) {
            int[] bytes = new int[51];
            bytes[0] = 3;
            bytes[1] = 20;
            bytes[22] = 4;
            bytes[23] = n;
            boolean within = 9 + 22 + 2 + n <= 60;
            dueFound(within ? 3 : 1, within ? 8 : 6, within ? 3 : 2, HEAD, PAGE_1, Checks.page(2, 6, 2, bytes));
        }
        for (int n = 5; n <= 7; n++) {
            int[] bytes = new int[51];
            bytes[0] = 3;
            bytes[1] = 40;
            bytes[42] = 4;
            bytes[43] = n;
            bytes[Math.min(44 + n, 50)] = 5;
            boolean within = n == 5;
            dueFound(within ? 4 : 1, within ? 9 : 6, within ? 3 : 2, HEAD, PAGE_1, Checks.page(2, 6, 3, bytes));
        }
    }

    // Promise 6, Terms: "u8 how many RECORDS": 25 at most are within bytes 9 .. 59
    private static void howManyRecords() {
        int[] bytes = emptyRecords(25);
        bytes[50] = 1;
        dueFound(25, 30, 3, HEAD, PAGE_1, Checks.page(2, 6, 24, bytes));
        dueFound(26, 31, 3, HEAD, PAGE_1, Checks.page(2, 6, 25, bytes));
        int[] wrong = {26, 27, 127, 128, 255};
        for (int count : wrong) {
            dueFound(1, 6, 2, HEAD, PAGE_1, Checks.page(2, 6, count, bytes));
        }
    }

    // Promise 6, Terms: "u8 how many RECORDS": the document asks for none, so a PAGE of 0 is one, and the next goes on
    private static void pageWithoutRecords() {
        dueFound(2, 7, 4, HEAD, PAGE_1, Checks.page(2, 6, 0), Checks.page(3, 6, 1, 3, 0));
        dueFound(1, 6, 3, HEAD, PAGE_1, Checks.page(2, 6, 0), Checks.page(3, 7, 1, 3, 0));
        dueFound(0, 5, 2, HEAD, Checks.page(1, 3, 0));
        dueFound(1, 6, 3, HEAD, Checks.page(1, 5, 0), Checks.page(2, 5, 1, 3, 0));
    }

    // Promise 6, Terms: what a HEAD and a PAGE must be to be FOUND is told; that other bytes are 0 is not among it
    private static void otherBytes() {
        byte[] head = HEAD.clone();
        head[12] = 1;
        head[59] = 1;
        byte[] page = Checks.page(2, 6, 1, 3, 0);
        page[11] = 1;
        page[59] = 1;
        dueFound(2, 7, 3, Checks.sealed(head), PAGE_1, Checks.sealed(page));
    }

    // Promise 6, Terms: "their RECORDS from KEPT on": KEPT is each of the RECORDS of two PAGES
    private static void recordsFromKeptOn() {
        byte[] first = Checks.page(1, 3, 3, 13, 1, 103, 14, 1, 104, 15, 1, 105);
        byte[] second = Checks.page(2, 6, 2, 16, 1, 106, 17, 1, 107);
        for (int kept = 3; kept <= 7; kept++) {
            Journal x = forged(Checks.head(2, 1, kept), 1, first, second).crash(0, 0).due(8 - kept);
            for (int number = kept; number <= 7; number++) {
                x.dueRecord(number - kept, number, 10 + number, 1, number <= 5 ? 1 : 2, 100 + number);
            }
            x.dueTotals(8 - kept, kept, 8, 0, 0, 0, 1, 2, 1, 3);
        }
    }

    // Promise 6, Terms: "the number behind the last one (KEPT, if .. all are below it)": by one, by more; none is below
    private static void numberOfTheNextRecord() {
        byte[] page = Checks.page(1, 3, 3, 13, 0, 14, 0, 15, 0);
        dueFound(3, 6, 2, Checks.head(2, 1, 3), page);
        dueFound(1, 6, 2, Checks.head(2, 1, 5), page);
        dueFound(0, 6, 2, Checks.head(2, 1, 6), page);
        dueFound(0, 7, 2, Checks.head(2, 1, 7), page);
        dueFound(0, MOST, 2, Checks.head(2, 1, MOST), page);
        // the PAGE that comes then begins with KEPT, so that it is not the one behind the last when it is FOUND AGAIN
        Journal x = forged(Checks.head(2, 1, 7), 1, page).crash(0, 0).due(0).append(9).due(7).sync().due(1);
        x.dueBlock(3, Checks.page(2, 7, 1, 9, 0)).crash(0, 0).due(0).dueTotals(0, 7, 7, 0, 0, 0, 1, 2, 2, 2);
    }

    // Promise 6, Terms: "PAGES from OLDEST on, one after the other (30 at most)": all 30 of a full DISK. No run shows a
    // 31st: it would lie in the BLOCK where PAGE OLDEST was found, and that has another NUMBER.
    private static void thirtyPages() {
        for (int pages = 29; pages <= 30; pages++) {
            Journal x = new Journal().appendPages(1, pages).sync().due(pages).crash(0, 0).due(pages);
            x.dueTotals(pages, 1, pages + 1, 0, 0, 0, 1, 1, 1, pages + 1);
            for (int i = 0; i < pages; i++) {
                x.record(i, 0).due(i + 1).record(i, 3).due(i + 1).record(i, 43).due(i + 1);
            }
            x.append(9).due(pages < 30 ? 30 : 0);
        }
        Journal x = new Journal().appendPages(1, 30).keep(16).due(true).sync().due(31).appendPages(31, 45);
        x.sync().due(15).crash(0, 0).due(30).dueTotals(30, 16, 46, 0, 0, 0, 16, 2, 1, 46);
        for (int i = 0; i < 30; i++) {
            x.record(i, 3).due(16 + i).record(i, 43).due(16 + i);
        }
        x.append(9).due(0);
    }

    // Promise 6, Terms: "PAGE p lies in BLOCK 2 + (p - 1) modulo 30": from BLOCK 31 on to BLOCK 2
    private static void pagesGoRound() {
        int[] oldest = {29, 30, 31, 59, 60, MOST};
        for (int page : oldest) {
            byte[][] pages = new byte[4][];
            for (int i = 0; i < 4; i++) {
                pages[i] = Checks.page(page + i, 5 + i, 1, 70 + i, 0);
            }
            Journal x = forged(Checks.head(2, page, 5), page, pages).crash(0, 0).due(4);
            for (int i = 0; i < 4; i++) {
                x.dueRecord(i, 5 + i, 70 + i, 0, page + i);
            }
            x.total(9).due(page + 4).append(1).due(9).record(4, 3).due(page + 4);
        }
    }

    // Promise 6, Terms: "as long as they are WHOLE": none behind one that is not, though these are
    private static void upToThePageThatIsNotWhole() {
        for (int bad = 1; bad <= 5; bad++) {
            Journal x = new Journal().appendPages(1, 5).sync().due(5).spoil(1 + bad, 63, ~Checks.filledPage(bad)[63]);
            x.crash(0, 0).due(bad - 1).dueTotals(bad - 1, 1, bad, 0, 0, 0, 1, 1, 1, bad);
            x.append(9).due(bad).record(bad - 1, 3).due(bad).disk(6, 3).due(5);
        }
    }

    // Promise 6, Terms: "as FIRST .. the number behind the last RECORD ahead": PAGES that a hole cut off are
    // FOUND again once a PAGE comes that leads up to them, and not if it leads elsewhere
    private static void pagesLeftBehindAHole() {
        int spoilt = ~Checks.filledPage(2)[63];
        Journal x = new Journal().appendPages(1, 4).sync().due(4).spoil(3, 63, spoilt).crash(0, 0).due(1);
        x.append(9).due(2).sync().due(1).total(0).due(2).crash(0, 0).due(4).record(1, 1).due(9).record(2, 43).due(3);
        x = new Journal().appendPages(1, 4).sync().due(4).spoil(3, 63, spoilt).crash(0, 0).due(1);
        x.append(9).due(2).append(9).due(3).sync().due(1).crash(0, 0).due(3).dueTotals(3, 1, 4, 0, 0, 0, 1, 1, 2, 3);
    }

    // Promise 6, Terms: "No PAGE is OPEN till the next RECORD comes": neither PAGE 1, nor the last one, with room on it
    private static void noPageIsOpen() {
        new Journal().crash(0, 0).due(0).total(3).due(0).total(4).due(0).total(9).due(1).sync().due(0).total(3).due(0)
            .append(1).due(1).total(3).due(1).total(4).due(1).total(9).due(2);
        Journal x = new Journal().append(7).due(1).sync().due(1).crash(0, 0).due(1).total(3).due(0).sync().due(0);
        x.append(0).due(Checks.ILLEGAL_ARGUMENT).total(3).due(0).append(8).due(2).total(3).due(2).record(1, 3).due(2);
        x.sync().due(1).dueBlock(2, Checks.page(1, 1, 1, 7, 0)).dueBlock(3, Checks.page(2, 2, 1, 8, 0));
    }
}

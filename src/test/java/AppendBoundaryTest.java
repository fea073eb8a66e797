import java.util.Arrays;
import java.util.function.Consumer;

/** Promise 3, sentence by sentence where one names a boundary case. */
public final class AppendBoundaryTest {
    private static final int[] NO_KINDS = {Integer.MIN_VALUE, -256, -255, -1, 0, 256, 257, 511, Integer.MAX_VALUE};
    private static final int MOST = 1000000;

    private AppendBoundaryTest() { }

    public static void main(String[] args) {
        everyKind();
        noSuchKind();
        everyLength();
        numbers();
        lastThatFitsAndFirstThatDoesNot();
        emptyRecordsOnOnePage();
        oneByteLeftOnThePage();
        closedPageWaitsBehindTheOthers();
        lastPageThatCanBeOpen();
        ringIsFullAndNothingComes();
        ringIsFullAndNoPageIsOpen();
        headThatOnlyWaits();
        headWrittenInHalf();
        headOfTheGreatestTurn();
        oldestOfTheHeadThatWasFound();
        pagesGoRound();
        otherBytesOfThePageAreZero();
        highestByteFirst();
        tapeIsEmptyInAnyCase();
        fortyWait();
        fortyWaitByTheLastAppend();
        fortyWaitAndTheRingIsFull();
        wrongKindAheadOfTheState();
        Checks.end("AppendBoundaryTest");
    }

    // Promise 3: "IllegalStateException, with a good one: .. or 3000 RECORDS have come in all": no run shows it, as a
    // RECORD comes by an append alone and an object is used for at most 512 calls; the class counts them all the same.

    // Promise 3, Terms: "A RECORD: a KIND (1 .. 255)"
    private static void everyKind() {
        for (int kind = 1; kind <= 255; kind++) {
            new Journal().append(kind).due(1).dueRecord(0, 1, kind, 0, 1).sync().due(1).disk(2, 9).due(kind);
        }
    }

    // Promise 3: "IllegalArgumentException: no such KIND": nothing comes
    private static void noSuchKind() {
        for (int kind : NO_KINDS) {
            State.dueUnchanged("append(" + kind + ")", x -> x.appendPages(1, 2).keep(2).append(9),
                x -> x.append(kind).due(Checks.ILLEGAL_ARGUMENT));
            new Journal().append(kind).due(Checks.ILLEGAL_ARGUMENT).dueTotals(0, 1, 1, 1, 0, 0, 1, 1, 0, 2);
        }
    }

    // Promise 3, Terms: "A RECORD: .. 0 .. 40 bytes", with the tape's bytes
    private static void everyLength() {
        for (int n = 0; n <= 40; n++) {
            int[] page = new int[2 + n];
            int[] record = new int[4 + n];
            Arrays.fill(page, 0xFE);
            Arrays.fill(record, 0xFE);
            System.arraycopy(new int[] {255, n}, 0, page, 0, 2);
            System.arraycopy(new int[] {1, 255, n, 1}, 0, record, 0, 4);
            Journal x = new Journal().appendFilled(255, n, 0xFE).due(1).dueRecord(0, record);
            x.sync().due(1).dueBlock(2, Checks.page(1, 1, 1, page));
        }
    }

    // Promise 3, Terms: "RECORDS are numbered 1, 2, 3 ..": over refused calls and new PAGES; again, if one is no more
    private static void numbers() {
        Journal x = new Journal().append(1).due(1).append(0).due(Checks.ILLEGAL_ARGUMENT).append(1).due(2);
        x.sync().due(1).append(1).due(3).keep(4).due(true).append(1).due(4).appendFilled(1, 40, 1).due(5);
        x.appendFilled(1, 40, 1).due(6).crash(0, 0).due(2).append(1).due(3);
    }

    // Promise 3, Terms: "goes to the OPEN PAGE, if it fits there" (bytes 9 .. 59): each pair of lengths
    private static void lastThatFitsAndFirstThatDoesNot() {
        for (int first = 0; first <= 40; first++) {
            for (int second = 0; second <= 40; second++) {
                boolean fits = 2 + first + 2 + second <= 51;
                Journal x = new Journal().appendFilled(1, first, 1).due(1).appendFilled(2, second, 2).due(2);
                x.record(1, 3).due(fits ? 1 : 2).record(1, 2).due(second);
                x.total(3).due(fits ? 1 : 2).total(4).due(fits ? 2 : 1).total(5).due(fits ? 0 : 1);
            }
        }
    }

    // Promise 3, Terms: "if it fits there": 25 RECORDS without bytes make a full PAGE, the 26th goes to the next
    private static void emptyRecordsOnOnePage() {
        Journal x = new Journal().appendEmpty(1, 25).dueTotals(25, 1, 26, 1, 25, 0, 1, 1, 0, 2);
        x.appendEmpty(26, 26).dueTotals(26, 1, 27, 2, 1, 1, 1, 1, 0, 3);
        x.record(24, 3).due(1).record(25, 3).due(2);
        int[] page = new int[50];
        for (int i = 0; i < 25; i++) {
            page[2 * i] = 2 + i;
        }
        x.dueWrite(0, 2, Checks.page(1, 1, 25, page));
    }

    // Promise 3, Terms: "all within bytes 9 .. 59": two bytes left take a RECORD without bytes, one byte left does not
    private static void oneByteLeftOnThePage() {
        new Journal().appendFilled(1, 40, 1).appendFilled(2, 5, 2).append(3).due(3).total(3).due(1).append(4).due(4)
            .total(3).due(2).total(4).due(1);
        new Journal().appendFilled(1, 40, 1).appendFilled(2, 6, 2).append(3).due(3).total(3).due(2).total(4).due(1);
        new Journal().appendFilled(1, 40, 1).appendFilled(2, 7, 2).append(3).due(3).total(3).due(2).total(4).due(1);
    }

    // Promise 3, Terms: "Else the OPEN PAGE is CLOSED: its WRITE waits behind the others, the next PAGE is OPEN, with
    // this RECORD"
    private static void closedPageWaitsBehindTheOthers() {
        Journal x = new Journal().appendPages(1, 2).keep(2).due(true).appendPages(3, 3);
        x.dueTotals(2, 2, 4, 3, 1, 3, 1, 2, 0, 4);
        x.dueWrite(0, 2, Checks.filledPage(1)).dueWrite(1, 0, Checks.head(2, 2, 2));
        x.dueWrite(2, 3, Checks.filledPage(2)).record(1, 3).due(3);
    }

    // Promise 3, Terms: "A PAGE can be OPEN only if its NUMBER is below OLDEST + 30": the last that can, the first not
    private static void lastPageThatCanBeOpen() {
        Journal x = new Journal().appendPages(1, 29).appendPages(30, 30).total(3).due(30);
        x.appendFilled(31, 40, 31).due(0).total(3).due(30).total(9).due(31);
        x = new Journal().appendPages(1, 30).keep(2).due(true).sync().due(31).total(6).due(2);
        x.appendPages(31, 31).total(3).due(31).appendFilled(32, 40, 32).due(0).total(3).due(31);
        x.sync().due(1).total(6).due(2).append(32).due(0).total(3).due(0).total(9).due(32);
        x = new Journal().appendPages(1, 30).keep(31).due(true).sync().due(31).total(6).due(30);
        x.appendPages(31, 59).total(3).due(59).appendFilled(60, 40, 60).due(0).total(3).due(59);
    }

    // Promise 3: "0, nothing comes, if THE RING is FULL (the OPEN PAGE stays as it is)"; what fits there still comes
    private static void ringIsFullAndNothingComes() {
        State.dueUnchanged("append to a full ring", x -> x.appendPages(1, 30), x -> x.appendFilled(9, 8, 9).due(0));
        Journal x = new Journal().appendPages(1, 30).appendFilled(9, 40, 9).due(0).appendFilled(9, 8, 9).due(0);
        x.appendFilled(9, 7, 9).due(31).total(4).due(2).append(9).due(0).sync().due(30).append(9).due(0);
    }

    // Promise 3: "0, nothing comes, if THE RING is FULL": none is OPEN then, as SYNC or a CRASH left it
    private static void ringIsFullAndNoPageIsOpen() {
        Consumer<Journal> synced = x -> x.appendPages(1, 30).sync();
        State.dueUnchanged("append behind a SYNC", synced, x -> x.append(9).due(0));
        State.dueUnchanged("append behind a CRASH", synced.andThen(x -> x.crash(0, 0)), x -> x.append(9).due(0));
        new Journal().appendPages(1, 30).sync().due(30).dueTotals(30, 1, 31, 0, 0, 0, 1, 1, 0, 31).append(9).due(0);
    }

    // Promise 3, Terms: "OLDEST of the HEAD .. that has been written": one that waits does not count
    private static void headThatOnlyWaits() {
        Journal x = new Journal().appendPages(1, 30).keep(31).due(true).appendFilled(9, 40, 9).due(0);
        x.sync().due(31).appendFilled(9, 40, 9).due(31).total(3).due(31);
    }

    // Promise 3, Terms: "written as a whole": c bytes of a HEAD are not enough, all of them are
    private static void headWrittenInHalf() {
        byte[] head = Checks.head(2, 2, 2);
        for (int c = 0; c <= 64; c++) {
            boolean whole = Arrays.equals(head, Arrays.copyOf(Arrays.copyOf(head, c), 64));
            Journal x = new Journal().appendPages(1, 30).sync().due(30).keep(2).due(true);
            x.crash(0, c).due(whole ? 29 : 30).append(9).due(whole ? 31 : 0).total(6).due(whole ? 2 : 1);
        }
    }

    // Promise 3, Terms: "OLDEST of the HEAD of the greatest TURN": of two that SYNC writes, the later one
    private static void headOfTheGreatestTurn() {
        Journal x = new Journal().appendPages(1, 30).keep(2).due(true).keep(3).due(true).sync().due(32);
        x.appendPages(31, 32).total(3).due(32).appendFilled(33, 40, 33).due(0);
    }

    // Promise 3 and 11: "OLDEST of the HEAD .. (or was FOUND)": the greatest OLDEST, and 1 without a HEAD
    private static void oldestOfTheHeadThatWasFound() {
        Journal x = new Journal().forge(0, Checks.head(2, MOST, MOST)).crash(0, 0).due(0);
        for (int page = MOST; page < MOST + 30; page++) {
            x.appendFilled(7, 40, 7).due(page).total(3).due(page);
        }
        x.appendFilled(7, 40, 7).due(0).total(3).due(MOST + 29);
        x = new Journal().forge(1, new byte[64]).crash(0, 0).due(0).appendPages(1, 30);
        x.appendFilled(31, 40, 31).due(0).total(3).due(30);
    }

    // Promise 3, Terms: "PAGE p lies in BLOCK 2 + (p - 1) modulo 30": twice round, from BLOCK 31 to BLOCK 2
    private static void pagesGoRound() {
        Journal x = new Journal();
        for (int page = 1; page <= 61; page++) {
            x.append(page).due(page).keep(page + 1).due(true).sync().due(2);
            x.disk(2 + (page - 1) % 30, 3).due(page).disk(2 + (page - 1) % 30, 7).due(page);
        }
        x.dueBlock(2, Checks.page(61, 61, 1, 61, 0)).dueBlock(31, Checks.page(60, 60, 1, 60, 0));
    }

    // Promise 3, Terms: "others are 0": also where a longer PAGE lay, on the DISK and in memory, a round before
    private static void otherBytesOfThePageAreZero() {
        Journal x = new Journal().appendPages(1, 30).keep(31).due(true).sync().due(31).append(9).due(31).sync().due(1);
        x.dueBlock(2, Checks.page(31, 31, 1, 9, 0));
        x = new Journal().appendPages(1, 1).crash(0, 0).due(0).append(9).due(1).sync().due(1);
        x.dueBlock(2, Checks.page(1, 1, 1, 9, 0));
    }

    // Promise 3, Terms: "u32: four bytes, the highest first": a PAGE's NUMBER and FIRST, where a byte more begins
    private static void highestByteFirst() {
        int[] numbers = {255, 256, 65535, 65536, MOST};
        for (int number : numbers) {
            for (int first : numbers) {
                Journal x = new Journal().forge(0, Checks.head(2, number, first)).crash(0, 0).due(0);
                x.append(7).due(first).record(0, 3).due(number).sync().due(1);
                x.dueBlock(2 + (number - 1) % 30, Checks.page(number, first, 1, 7, 0));
            }
        }
    }

    // Promise 3: "(the tape is empty then in any case)": a number, 0, and each exception
    private static void tapeIsEmptyInAnyCase() {
        dueTapeEmptied("1", x -> { }, 1);
        dueTapeEmptied(Checks.ILLEGAL_ARGUMENT, x -> { }, 0);
        dueTapeEmptied(Checks.ILLEGAL_ARGUMENT, x -> { }, 256);
        dueTapeEmptied(Checks.ILLEGAL_STATE, AppendBoundaryTest::untilFortyWait, 1);
        dueTapeEmptied(Checks.ILLEGAL_ARGUMENT, AppendBoundaryTest::untilFortyWait, 0);
        dueTapeEmptied("0", x -> x.appendPages(1, 30), 1);
    }

    private static void dueTapeEmptied(String want, Consumer<Journal> lead, int kind) {
        Journal x = new Journal();
        lead.accept(x);
        x.typeFilled(40, 0xEE).append(kind).due(want).typeFilled(40, 0xDD).type(0, 1).due(false);
        x = new Journal();
        lead.accept(x);
        x.typeFilled(40, 0xEE).append(kind).due(want).sync();
        x.append(9);
        if (x.answer().equals("0")) {
            x.keep(x.total(2).number()).due(true).sync().due(1);
            x.append(9);
        }
        x.record(x.total(0).number() - 1, 1).due(9).record(x.total(0).number() - 1, 2).due(0);
    }

    /** PAGE 1 and 39 HEADS; RECORDS 26 .. 41 are on the OPEN PAGE 2. */
    private static void untilFortyWait(Journal x) {
        x.appendEmpty(1, 41).keepEach(2, 40).total(5).due(40);
    }

    // Promise 3: "IllegalStateException, with a good one: 40 WRITES wait": not with 39, nor behind a SYNC
    private static void fortyWait() {
        new Journal().appendEmpty(1, 41).keepEach(2, 39).total(5).due(39).append(1).due(42).keep(40).due(true)
            .append(1).due(Checks.ILLEGAL_STATE).total(5).due(40).total(2).due(43);
        State.dueUnchanged("append with 40 waiting", AppendBoundaryTest::untilFortyWait,
            x -> x.append(1).due(Checks.ILLEGAL_STATE).append(255).due(Checks.ILLEGAL_STATE));
        Journal x = new Journal();
        untilFortyWait(x);
        x.sync().due(41).append(1).due(42).total(3).due(3);
        x = new Journal();
        untilFortyWait(x);
        x.crash(40, 0).due(0).append(1).due(40).total(3).due(2);
    }

    // Promise 3: "40 WRITES wait": with 39, an append that closes a PAGE still comes, and is the last
    private static void fortyWaitByTheLastAppend() {
        Journal x = new Journal().appendEmpty(1, 50).keepEach(2, 39).total(5).due(39);
        x.append(1).due(51).dueTotals(13, 39, 52, 3, 1, 40, 1, 39, 0, 4);
        x.append(1).due(Checks.ILLEGAL_STATE).dueTotals(13, 39, 52, 3, 1, 40, 1, 39, 0, 4);
        x.sync().due(41);
    }

    // Promise 3: "IllegalStateException, with a good one: 40 WRITES wait", where THE RING is FULL, too
    private static void fortyWaitAndTheRingIsFull() {
        Journal x = new Journal().appendPages(1, 30).keepEach(2, 11).total(5).due(39).appendFilled(9, 40, 9).due(0);
        x.keep(12).due(true).appendFilled(9, 40, 9).due(Checks.ILLEGAL_STATE).append(9).due(Checks.ILLEGAL_STATE);
        x.total(4).due(1).sync().due(41).appendFilled(9, 40, 9).due(31);
    }

    // Promise 3: "IllegalArgumentException: no such KIND; IllegalStateException, with a good one"
    private static void wrongKindAheadOfTheState() {
        for (int kind : NO_KINDS) {
            Journal x = new Journal();
            untilFortyWait(x);
            x.append(kind).due(Checks.ILLEGAL_ARGUMENT).total(5).due(40);
            new Journal().appendPages(1, 30).sync().append(kind).due(Checks.ILLEGAL_ARGUMENT);
        }
    }
}

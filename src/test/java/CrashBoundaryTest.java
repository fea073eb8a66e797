import java.util.Arrays;
import java.util.function.Consumer;

/** Promise 6 up to what comes to the DISK, sentence by sentence where one names a boundary case. */
public final class CrashBoundaryTest {
    private static final int LOW = Integer.MIN_VALUE;
    private static final int HIGH = Integer.MAX_VALUE;

    private CrashBoundaryTest() { }

    public static void main(String[] args) {
        howManyAreDone();
        howManyBytesOfTheNextOne();
        noneIsNext();
        noneWaits();
        othersAreNoMore();
        memoryIsNoMore();
        halfAHeadOverAnOlderOne();
        fortyWait();
        wrongOnes();
        lastCrash();
        refusedOnesDoNotCount();
        whatIsFoundWasThere();
        Checks.end("CrashBoundaryTest");
    }

    // Promise 6: "k: 0 or more (those that wait at most)": none, some, all, and more than all
    private static void howManyAreDone() {
        int[] counts = {0, 1, 2, 3, 4, 5, 6, 40, 41, HIGH};
        for (int k : counts) {
            Journal x = new Journal().appendPages(1, 5).total(5).due(4);
            x.crash(k, 0).due(Math.min(k, 4)).total(0).due(Math.min(k, 4));
            for (int page = 1; page <= 5; page++) {
                x.disk(1 + page, 3).due(page <= Math.min(k, 4) ? page : 0);
            }
        }
    }

    // Promise 6: "c: 0 .. 64"; Terms: "of the next one its first c bytes come to the DISK": the others stay, here those
    // of the PAGE that lay there a round before
    private static void howManyBytesOfTheNextOne() {
        byte[] before = Checks.filledPage(1);
        byte[] next = Checks.filledPage(31);
        for (int c = 0; c <= 64; c++) {
            byte[] mixed = before.clone();
            System.arraycopy(next, 0, mixed, 0, c);
            boolean whole = Arrays.equals(mixed, next);
            Journal x = new Journal().appendPages(1, 30).keep(31).due(true).sync().due(31).appendPages(31, 32);
            x.crash(0, c).due(whole ? 1 : 0).dueBlock(2, mixed);
            x.dueTotals(whole ? 1 : 0, 31, whole ? 32 : 31, 0, 0, 0, 30, 2, 1, whole ? 32 : 31);
        }
    }

    // Promise 6: "(those that wait at most)": all are done, so there is no next one for c
    private static void noneIsNext() {
        for (int c = 0; c <= 64; c += 16) {
            Journal x = new Journal().appendPages(1, 3).crash(2, c).due(2).dueBlock(4, new byte[64]);
            x.dueBlock(2, Checks.filledPage(1)).dueBlock(3, Checks.filledPage(2));
            // nor is one that was done long ago
            x = new Journal().appendEmpty(1, 6).keepEach(2, 4).sync().due(4).keep(5).due(true).crash(1, c).due(2);
            x.dueBlock(0, Checks.head(4, 1, 4)).dueBlock(1, Checks.head(5, 1, 5));
        }
    }

    // Promise 6: "k: 0 or more (those that wait at most)": none waits, and nothing comes to the DISK
    private static void noneWaits() {
        int[][] crashes = {{0, 0}, {0, 64}, {1, 64}, {HIGH, 64}};
        for (int[] crash : crashes) {
            State.dueUnchanged("a CRASH more", x -> x.appendPages(1, 3).sync().crash(0, 0), x ->
                x.append(9).due(4).crash(crash[0], crash[1]).due(3).total(8).due(2), "total(8) = ");
        }
        new Journal().append(9).crash(HIGH, 64).due(0).dueBlock(2, new byte[64]).dueBlock(1, Checks.head(1, 1, 1));
    }

    // Promise 6, Terms: "all others .. are no more": neither waiting nor on the DISK
    private static void othersAreNoMore() {
        Journal x = new Journal().appendPages(1, 5).crash(1, 10).due(1).total(5).due(0);
        x.write(0, 0).due(Checks.NO_SUCH_ELEMENT).sync().due(0);
        byte[] half = Arrays.copyOf(Arrays.copyOf(Checks.filledPage(2), 10), 64);
        x.dueBlock(3, half).dueBlock(4, new byte[64]).dueBlock(5, new byte[64]).dueBlock(6, new byte[64]);
    }

    // Promise 6, Terms: "what is in memory, are no more": the OPEN PAGE's RECORDS, and a KEPT whose HEAD was not done
    private static void memoryIsNoMore() {
        Journal x = new Journal().append(7).due(1).sync().due(1).append(8).due(2).keep(3).due(true);
        x.dueTotals(0, 3, 3, 2, 1, 1, 1, 2, 0, 3).crash(0, 63).due(1).dueTotals(1, 1, 2, 0, 0, 0, 1, 1, 1, 2);
        x.dueRecord(0, 1, 7, 0, 1).append(9).due(2).dueRecord(1, 2, 9, 0, 2);
    }

    // Promise 6, Terms: "its first c bytes come to the DISK": half of HEAD 3 over HEAD 1 leaves HEAD 2
    private static void halfAHeadOverAnOlderOne() {
        byte[] older = Checks.head(1, 1, 1);
        byte[] newer = Checks.head(3, 1, 3);
        for (int c = 0; c <= 64; c++) {
            byte[] mixed = older.clone();
            System.arraycopy(newer, 0, mixed, 0, c);
            boolean whole = Arrays.equals(mixed, newer);
            Journal x = new Journal().appendEmpty(1, 4).sync().due(1).keep(2).due(true).keep(3).due(true);
            x.crash(1, c).due(whole ? 2 : 3).dueBlock(1, mixed).total(1).due(whole ? 3 : 2).total(7).due(whole ? 3 : 2);
        }
    }

    // Promise 6: "(those that wait at most)": the full list of WRITES, the last of them not done, half done, done
    private static void fortyWait() {
        Consumer<Journal> lead = x -> x.appendEmpty(1, 41).sync().due(2).keepEach(2, 41).total(5).due(40);
        int[][] crashes = {{0, 0, 1}, {1, 0, 2}, {38, 64, 40}, {39, 0, 40}, {39, 63, 40}, {39, 64, 41}, {40, 0, 41},
            {41, 64, 41}, {HIGH, 64, 41}};
        for (int[] crash : crashes) {
            Journal x = new Journal();
            lead.accept(x);
            x.crash(crash[0], crash[1]).due(42 - crash[2]).total(1).due(crash[2]).total(7).due(crash[2]);
        }
    }

    // Promise 6: "IllegalArgumentException: k below 0, another c": no CRASH then
    private static void wrongOnes() {
        int[][] wrong = {{-1, 0}, {-1, 64}, {LOW, 0}, {0, -1}, {0, 65}, {0, LOW}, {0, HIGH}, {0, 256}, {4, 65},
            {HIGH, -1}, {-1, -1}, {-1, 65}};
        for (int[] kc : wrong) {
            State.dueUnchanged("crash(" + kc[0] + ", " + kc[1] + ")", x -> x.appendPages(1, 4).keep(2).type(5, 5),
                x -> x.crash(kc[0], kc[1]).due(Checks.ILLEGAL_ARGUMENT));
        }
    }

    private static void crashes(Journal x, int n) {
        for (int i = 1; i <= n; i++) {
            x.crash(0, 0).due(1);
        }
    }

    // Promise 6: "IllegalStateException, with good ones: 300 CRASHES have been": the 300th still is one, the 301st not
    private static void lastCrash() {
        Consumer<Journal> lead = x -> {
            x.append(7).due(1).sync().due(1);
            crashes(x, 299);
            x.total(8).due(299).crash(0, 0).due(1).total(8).due(300).append(8).due(2).keep(2).due(true);
        };
        int[][] good = {{0, 0}, {1, 64}, {HIGH, 0}};
        for (int[] kc : good) {
            State.dueUnchanged("crash 301", lead, x -> x.crash(kc[0], kc[1]).due(Checks.ILLEGAL_STATE));
        }
        int[][] wrong = {{-1, 0}, {0, 65}, {0, -1}};
        for (int[] kc : wrong) {
            State.dueUnchanged("a wrong crash 301", lead, x -> x.crash(kc[0], kc[1]).due(Checks.ILLEGAL_ARGUMENT));
        }
    }

    // Promise 6: "300 CRASHES have been": one that was refused has not been
    private static void refusedOnesDoNotCount() {
        Journal x = new Journal().append(7).due(1).sync().due(1).crash(-1, 0).crash(0, 65).total(8).due(0);
        crashes(x, 300);
        x.total(8).due(300).crash(0, 0).due(Checks.ILLEGAL_STATE).crash(0, 65).due(Checks.ILLEGAL_ARGUMENT);
        x.total(8).due(300);
    }

    // Promise 6, "what is found again is what was there up to some record": whichever WRITE is left half, at any byte
    private static void whatIsFoundWasThere() {
        for (int k = 0; k <= 8; k++) {
            for (int c = 0; c <= 64; c++) {
                Journal x = new Journal().appendPages(1, 3).keep(2).due(true).appendPages(4, 4).keep(4).due(true);
                x.appendPages(5, 7).total(5).due(8).crash(k, c);
                int found = x.number();
                int kept = x.total(1).number();
                for (int i = 0; i < found; i++) {
                    int number = kept + i;
                    x.record(i, 0).due(number).record(i, 1).due(number).record(i, 2).due(40).record(i, 3).due(number);
                    x.record(i, 4).due(number).record(i, 43).due(number);
                }
                x.record(found, 0).due(Checks.NO_SUCH_ELEMENT).append(9).due(kept + found).record(found, 3);
                int done = k + (k < 8 && c == 64 ? 1 : 0);
                int[] keptBy = {1, 1, 1, 2, 2, 4, 4, 4, 4};
                int[] lastBy = {0, 1, 2, 2, 3, 3, 4, 5, 6};
                // a CHECK of which only its last bytes are missing may be right by chance
                if (c < 60 || c == 64) {
                    Checks.due("KEPT of crash(" + k + ", " + c + ")", kept, keptBy[done]);
                    Checks.due("found by crash(" + k + ", " + c + ")", found, Math.max(0, lastBy[done] + 1 - kept));
                }
            }
        }
    }
}

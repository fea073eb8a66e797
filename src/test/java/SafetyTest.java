import java.util.ArrayList;
import java.util.List;
import java.util.Random;
import java.util.TreeSet;

/**
 * The document's first sentence: RECORDS are safe once they are written, and what is found again is what was there up
 * to some RECORD. It is held against a plain list of what came, on runs from fixed seeds in which no byte is spoiled.
 */
public final class SafetyTest {
    private static final int RUNS = 4000;
    private static final String[] MOODS = {
        // a append, A append of 40 bytes, k keep, s sync, c crash
        "aaaakc", "AAAAAks", "aaaaaasc", "AAAkkc", "AAAAAAAksc", "akc", "aaksc", "AAAAAAAAAAks"};

    private record Came(int kind, int length, int filling) { }

    private final Random random;
    private final String mood;
    private final Journal x = new Journal();
    /** RECORD 1, 2, 3 ..: as they came, those that a CRASH took away left out. */
    private final List<Came> came = new ArrayList<>();
    /** The KEPTs that a CRASH may lead to: the one that is written, and those that wait. */
    private final TreeSet<Integer> kepts = new TreeSet<>(List.of(1));
    private int lastWritten = 0;

    private SafetyTest(int seed) {
        random = new Random(seed);
        mood = MOODS[seed % MOODS.length];
    }

    public static void main(String[] args) {
        headsByTurns();
        for (int seed = 0; seed < RUNS && !Checks.anyWrong(); seed++) {
            new SafetyTest(seed).go();
            if (Checks.anyWrong()) {
                System.out.println("seed " + seed);
            }
        }
        Checks.end("SafetyTest");
    }

    // "heads by turns that tell where it begins": however often one is left half, the other still tells it
    private static void headsByTurns() {
        for (int c = 1; c < 60; c++) {
            Journal x = new Journal().appendEmpty(1, 5).keep(2).due(true).sync().due(2);
            for (int i = 1; i <= 8; i++) {
                x.keep(2 + i % 4).crash(0, c).due(4).total(1).due(2).total(7).due(2);
            }
        }
    }

    private void go() {
        // 7 calls to come, and those that look at what a CRASH leaves
        while (x.left() >= 7 + 10) {
            switch (mood.charAt(random.nextInt(mood.length()))) {
                case 'a' -> append(random.nextInt(random.nextBoolean() ? 41 : 4));
                case 'A' -> append(40);
                case 'k' -> keep();
                case 's' -> sync();
                default -> crash();
            }
        }
    }

    private void append(int length) {
        Came record = new Came(1 + random.nextInt(255), length, random.nextInt(256));
        x.appendFilled(record.kind(), length, record.filling());
        if (x.answer().equals(Checks.ILLEGAL_STATE) || x.answer().equals("0")) {
            sync();
            return;
        }
        came.add(record);
        x.due(came.size());
    }

    private void keep() {
        int from = x.total(1).number();
        if (from <= came.size() && x.total(5).number() < 40) {
            int n = from + 1 + random.nextInt(came.size() + 1 - from);
            x.keep(n).due(true);
            kepts.add(n);
        }
    }

    private void sync() {
        x.sync();
        lastWritten = came.size();
        onlyKept(kepts.last());
    }

    private void onlyKept(int kept) {
        kepts.clear();
        kepts.add(kept);
    }

    private void crash() {
        int waiting = x.total(5).number();
        int onClosedPages = came.size() - x.total(4).number();
        int k = random.nextInt(waiting + 2);
        int found = x.crash(k, random.nextInt(65)).number();
        int kept = x.total(1).number();
        int last = kept + found - 1;
        x.total(2).due(last + 1);
        Checks.due("KEPT is one of " + kepts + ": " + kept, kepts.contains(kept), true);
        Checks.due("RECORD " + lastWritten + " is written, " + last + " the last found", last >= lastWritten, true);
        Checks.due("RECORD " + came.size() + " was the last, " + last + " is found", last <= came.size(), true);
        if (k >= waiting) {
            Checks.due("KEPT with all WRITES done", kept, kepts.last());
            Checks.due("the last found with all WRITES done", last, Math.max(onClosedPages, kept - 1));
        }
        for (int i = 0; i < found && x.left() >= 10 && !Checks.anyWrong(); i++) {
            dueFound(i, came.get(kept - 1 + i));
        }
        if (last < came.size()) {
            came.subList(last, came.size()).clear();
        }
        lastWritten = last;
        onlyKept(kept);
    }

    private void dueFound(int i, Came want) {
        x.record(i, 1).due(want.kind()).record(i, 2).due(want.length());
        if (want.length() > 0) {
            x.record(i, 4 + random.nextInt(want.length())).due(want.filling());
        }
    }
}

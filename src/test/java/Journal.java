import java.util.ArrayList;
import java.util.List;
import java.util.function.Supplier;

/** A RoundJournal whose calls are counted and told: none behind its 512th is leant on, a wrong answer shows its run. */
final class Journal {
    static final int MOST_CALLS = 512;
    private static final int CALLS_SHOWN = 12;

    private final RoundJournal journal = new RoundJournal();
    private final List<String> story = new ArrayList<>();
    private String call = "";
    private String answer = "";

    int left() {
        return MOST_CALLS - story.size();
    }

    String answer() {
        return answer;
    }

    /** The last call with its answer. */
    String told() {
        return call + " = " + answer;
    }

    /** The last call's answer, as a number. */
    int number() {
        return Integer.parseInt(answer);
    }

    /** Compares the last call's answer with the one that is due. */
    Journal due(Object want) {
        if (!Checks.due(call, answer, want) && Checks.showsMore()) {
            tellStory();
        }
        return this;
    }

    private void tellStory() {
        for (StackTraceElement at : new Throwable().getStackTrace()) {
            if (at.getClassName().endsWith("Test")) {
                System.out.println("  in " + at);
                break;
            }
        }
        int from = Math.max(0, story.size() - CALLS_SHOWN);
        System.out.println("  " + from + " calls, then " + story.subList(from, story.size()));
    }

    private Journal made(String call, Supplier<Object> calling) {
        this.call = call;
        try {
            answer = String.valueOf(calling.get());
        } catch (RuntimeException e) {
            answer = Checks.thrown(e);
        }
        story.add(told());
        if (story.size() == MOST_CALLS + 1) {
            Checks.due("calls on one object", story.size(), MOST_CALLS);
            tellStory();
        }
        return this;
    }

    Journal type(long word, int n) {
        return made("type(" + word + ", " + n + ")", () -> journal.type(word, n));
    }

    Journal append(int kind) {
        return made("append(" + kind + ")", () -> journal.append(kind));
    }

    Journal sync() {
        return made("sync()", () -> journal.sync());
    }

    Journal keep(int n) {
        return made("keep(" + n + ")", () -> journal.keep(n));
    }

    Journal crash(int k, int c) {
        return made("crash(" + k + ", " + c + ")", () -> journal.crash(k, c));
    }

    Journal spoil(int block, int i, int v) {
        return made("spoil(" + block + ", " + i + ", " + v + ")", () -> journal.spoil(block, i, v));
    }

    Journal disk(int block, int i) {
        return made("disk(" + block + ", " + i + ")", () -> journal.disk(block, i));
    }

    Journal record(int i, int what) {
        return made("record(" + i + ", " + what + ")", () -> journal.record(i, what));
    }

    Journal write(int i, int what) {
        return made("write(" + i + ", " + what + ")", () -> journal.write(i, what));
    }

    Journal total(int what) {
        return made("total(" + what + ")", () -> journal.total(what));
    }

    /** n bytes v to the tape. */
    Journal typeFilled(int n, int v) {
        for (int left = n; left > 0; left -= 8) {
            type(v * 0x0101010101010101L, Math.min(left, 8)).due(true);
        }
        return this;
    }

    /** A RECORD of n bytes v; with 40 of them, the next such one needs a PAGE of its own. */
    Journal appendFilled(int kind, int n, int v) {
        return typeFilled(n, v).append(kind);
    }

    /** RECORDS without bytes, numbered from .. to. */
    Journal appendEmpty(int from, int to) {
        for (int number = from; number <= to; number++) {
            append(1 + number % 255).due(number);
        }
        return this;
    }

    /** RECORDS of 40 bytes, numbered from .. to, each on a PAGE of its own: 6 calls each. */
    Journal appendPages(int from, int to) {
        for (int number = from; number <= to; number++) {
            appendFilled(number, 40, number).due(number);
        }
        return this;
    }

    /** KEEPS from .. to: as many HEADS wait then. */
    Journal keepEach(int from, int to) {
        for (int n = from; n <= to; n++) {
            keep(n).due(true);
        }
        return this;
    }

    Journal forge(int block, byte[] bytes) {
        for (int i = 0; i < bytes.length; i++) {
            spoil(block, i, bytes[i]).due(true);
        }
        return this;
    }

    Journal dueTotals(int... want) {
        for (int what = 0; what < want.length; what++) {
            total(what).due(want[what]);
        }
        return this;
    }

    Journal dueBlock(int block, byte[] want) {
        for (int i = 0; i < want.length; i++) {
            disk(block, i).due(want[i] & 0xFF);
        }
        return this;
    }

    Journal dueWrite(int i, int place, byte[] want) {
        write(i, 0).due(place);
        for (int k = 0; k < want.length; k++) {
            write(i, 1 + k).due(want[k] & 0xFF);
        }
        return this;
    }

    /** what 0, 1, 2 .. of the i-th RECORD in memory, and no what behind the last of these. */
    Journal dueRecord(int i, int... want) {
        for (int what = 0; what < want.length; what++) {
            record(i, what).due(want[what]);
        }
        return record(i, want.length).due(Checks.NO_SUCH_ELEMENT);
    }
}

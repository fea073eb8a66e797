import java.util.ArrayList;
import java.util.List;
import java.util.function.Consumer;

/** All that a run of calls leaves, as the face shows it; the run is made anew where 512 calls do not suffice. */
final class State {
    private final Consumer<Journal> run;
    private final List<String> answers = new ArrayList<>();

    private State(Consumer<Journal> run) {
        this.run = run;
    }

    static List<String> of(Consumer<Journal> run) {
        State state = new State(run);
        state.lookAtAll();
        state.lookAtTape();
        return state.answers;
    }

    /** Nothing that can be seen is another, behind the calls, than it was ahead of them. */
    static void dueUnchanged(String more, Consumer<Journal> run, Consumer<Journal> calls) {
        dueUnchanged(more, run, calls, "(none is left out)");
    }

    /** The same, but for the answer whose call begins so. */
    static void dueUnchanged(String more, Consumer<Journal> run, Consumer<Journal> calls, String butFor) {
        List<String> before = of(run);
        List<String> after = of(run.andThen(calls));
        Checks.due(more + ": how much can be seen", after.size(), before.size());
        for (int i = 0; i < Math.min(before.size(), after.size()); i++) {
            if (!before.get(i).startsWith(butFor)) {
                Checks.due(more + ": what can be seen", after.get(i), before.get(i));
            }
        }
    }

    private Journal ready() {
        Journal journal = new Journal();
        run.accept(journal);
        Checks.due("calls are left to look at the state", journal.left() > 100, true);
        return journal;
    }

    private void lookAtAll() {
        List<Consumer<Journal>> looks = looks();
        Journal journal = ready();
        for (Consumer<Journal> look : looks) {
            if (journal.left() == 0) {
                journal = ready();
            }
            look.accept(journal);
            answers.add(journal.told());
        }
    }

    private List<Consumer<Journal>> looks() {
        Journal journal = ready();
        int records = journal.total(0).number();
        int writes = journal.total(5).number();
        List<Consumer<Journal>> looks = new ArrayList<>();
        addLooks(looks, 1, 12, (x, i, what) -> x.total(what - 1));
        addLooks(looks, 32, 64, Journal::disk);
        addLooks(looks, records + 1, 45, Journal::record);
        addLooks(looks, writes + 1, 66, Journal::write);
        return looks;
    }

    private interface Look {
        Journal at(Journal journal, int i, int what);
    }

    private static void addLooks(List<Consumer<Journal>> looks, int rows, int columns, Look look) {
        for (int i = 0; i < rows; i++) {
            for (int what = 0; what < columns; what++) {
                int row = i;
                int column = what;
                looks.add(journal -> look.at(journal, row, column));
            }
        }
    }

    // the tape shows only by what it still takes, and by the RECORD that it gives
    private void lookAtTape() {
        Journal journal = ready();
        int takes = 0;
        while (journal.type(0, 1).answer().equals("true")) {
            takes++;
        }
        answers.add("the tape takes " + takes);
        journal = ready();
        journal.sync();
        journal.keep(journal.total(2).number()).sync();
        answers.add(journal.append(1).told());
        int last = journal.total(0).number() - 1;
        for (int what = 0; what < 45; what++) {
            answers.add(journal.record(last, what).told());
        }
    }
}

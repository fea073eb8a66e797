import java.util.Random;

/** Runs of 512 calls, drawn from fixed seeds, on the class and on the model: each answer must be the same. */
public final class ModelTest {
    private static final int RUNS = 6000;
    private static final int CALLS = 512;
    private static final int[] EDGES = {Integer.MIN_VALUE, -1, 0, 1, 63, 64, 65, 255, 256, Integer.MAX_VALUE};
    private static final String[] MOODS = {
        // t type, a append, s sync, k keep, c crash, x spoil, f forge, o odd arguments, l look
        "ttttaaaallk", "tttttaaaaaasklll", "aaaaaaaakkllc", "tttaaasklcll", "taskcxfolll", "ttttttaaaaakslllllc",
        "aaaskkkkkkllco", "ccccaslllf", "ffclllask", "tttttttttaaaaaakslll"};

    private final Random random;
    private final RoundJournal journal = new RoundJournal();
    private final JournalModel model = new JournalModel();
    private final String mood;
    private final StringBuilder story = new StringBuilder();
    private int calls = 0;

    private ModelTest(int seed) {
        random = new Random(seed);
        mood = MOODS[seed % MOODS.length];
    }

    public static void main(String[] args) {
        for (int seed = 0; seed < RUNS && !Checks.anyWrong(); seed++) {
            ModelTest run = new ModelTest(seed);
            run.go();
            if (Checks.anyWrong()) {
                System.out.println("seed " + seed + ":" + run.story);
            }
        }
        Checks.end("ModelTest");
    }

    private void go() {
        while (calls < CALLS && !Checks.anyWrong()) {
            // rarely anything else than the mood's calls, so that no state stays out of reach
            String from = random.nextInt(40) == 0 ? "taskcxfol" : mood;
            step(from.charAt(random.nextInt(from.length())));
        }
    }

    private void step(char what) {
        switch (what) {
            case 't' -> type(random.nextLong(), 1 + random.nextInt(random.nextBoolean() ? 8 : 9));
            case 'a' -> append(1 + random.nextInt(255));
            case 's' -> sync();
            case 'k' -> keep(model.total(1) + 1 + random.nextInt(Math.max(1, model.total(0) + 1)));
            case 'c' -> crash(random.nextInt(model.total(5) + 2), random.nextInt(65));
            case 'x' -> spoil(random.nextInt(32), random.nextInt(64), random.nextInt());
            case 'f' -> forge();
            case 'o' -> odd();
            default -> look();
        }
    }

    private void due(String call, Object got, Object want) {
        calls++;
        story.append("\n  ").append(call).append(" = ").append(want);
        Checks.due(call, got, want);
    }

    private void type(long word, int n) {
        due("type(" + word + ", " + n + ")", journal.type(word, n), model.type(word, n));
    }

    private void append(int kind) {
        due("append(" + kind + ")", Checks.append(journal, kind), model.append(kind));
    }

    private void sync() {
        due("sync()", journal.sync(), model.sync());
    }

    private void keep(int n) {
        due("keep(" + n + ")", journal.keep(n), model.keep(n));
    }

    private void crash(int k, int c) {
        due("crash(" + k + ", " + c + ")", Checks.crash(journal, k, c), model.crash(k, c));
    }

    private void spoil(int block, int i, int v) {
        due("spoil(" + block + ", " + i + ", " + v + ")", journal.spoil(block, i, v), model.spoil(block, i, v));
    }

    private void disk(int block, int i) {
        due("disk(" + block + ", " + i + ")", journal.disk(block, i), model.disk(block, i));
    }

    private void record(int i, int what) {
        due("record(" + i + ", " + what + ")", Checks.record(journal, i, what), model.record(i, what));
    }

    private void write(int i, int what) {
        due("write(" + i + ", " + what + ")", Checks.write(journal, i, what), model.write(i, what));
    }

    private void total(int what) {
        due("total(" + what + ")", journal.total(what), model.total(what));
    }

    private void look() {
        switch (random.nextInt(4)) {
            case 0 -> total(random.nextInt(10));
            case 1 -> disk(random.nextInt(32), random.nextInt(64));
            case 2 -> record(random.nextInt(model.total(0) + 1), random.nextInt(random.nextBoolean() ? 6 : 45));
            default -> write(random.nextInt(model.total(5) + 1), random.nextInt(66));
        }
    }

    private int edge() {
        return EDGES[random.nextInt(EDGES.length)];
    }

    private void odd() {
        switch (random.nextInt(9)) {
            case 0 -> type(random.nextLong(), edge());
            case 1 -> append(edge());
            case 2 -> keep(edge());
            case 3 -> crash(edge(), edge());
            case 4 -> spoil(edge(), edge(), edge());
            case 5 -> disk(edge(), edge());
            case 6 -> record(edge(), edge());
            case 7 -> write(edge(), edge());
            default -> total(edge());
        }
    }

    /** A BLOCK whose CHECK is right by chance, mostly one that goes on where the journal is. */
    private void forge() {
        int block;
        byte[] bytes;
        if (random.nextInt(3) == 0) {
            int turn = number(model.total(7) + 1);
            block = random.nextInt(8) == 0 ? random.nextInt(2) : turn & 1;
            bytes = Checks.head(turn, number(model.total(6)), number(model.total(1)));
        } else {
            int page = Math.max(1, number(model.total(9)));
            block = 2 + (page - 1) % 30;
            int[] content = new int[51];
            int count = forgedRecords(content);
            bytes = Checks.page(page, number(model.total(2)), count, content);
        }
        for (int i = 0; i < 64; i++) {
            if (calls < CALLS && model.disk(block, i) != (bytes[i] & 0xFF)) {
                spoil(block, i, bytes[i]);
            }
        }
    }

    private int number(int usual) {
        switch (random.nextInt(12)) {
            case 0: return usual - random.nextInt(3);
            case 1: return usual + random.nextInt(3);
            case 2: return 999999 + random.nextInt(3);
            case 3: return random.nextInt(8) == 0 ? edge() : usual;
            default: return usual;
        }
    }

    private int forgedRecords(int[] content) {
        int wanted = random.nextInt(random.nextInt(4) == 0 ? 27 : 4);
        int at = 0;
        for (int i = 0; i < wanted && at + 2 <= content.length; i++) {
            int n = wanted > 4 ? 0 : random.nextInt(random.nextInt(4) == 0 ? 44 : 6);
            content[at] = random.nextInt(20) == 0 ? 0 : 1 + random.nextInt(255);
            content[at + 1] = n;
            for (int k = at + 2; k < at + 2 + n && k < content.length; k++) {
                content[k] = random.nextInt(3);
            }
            at += 2 + n;
        }
        return wanted;
    }
}

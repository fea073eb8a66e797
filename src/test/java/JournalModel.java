import java.util.ArrayList;
import java.util.List;

/** The document told once more, with the Java library and no thought of room or speed: what ModelTest compares with. */
final class JournalModel {
    private record Entry(int number, int kind, byte[] bytes, int page) { }

    private record Write(int place, byte[] bytes) { }

    private final byte[][] disk = new byte[32][64];
    private List<Entry> memory = new ArrayList<>();
    private List<Entry> onOpenPage = new ArrayList<>();
    private List<Write> waiting = new ArrayList<>();
    private final List<Byte> tape = new ArrayList<>();
    private int openPage = 1;
    private int nextPage = 2;
    private int kept = 1;
    private int nextRecord = 1;
    private int writtenOldest = 1;
    private int greatestTurn = 1;
    private int come = 0;
    private int crashes = 0;

    JournalModel() {
        disk[1] = Checks.head(1, 1, 1);
    }

    boolean type(long word, int n) {
        if (n < 1 || n > 8 || tape.size() + n > 40) {
            return false;
        }
        for (int i = n; i > 0; i--) {
            tape.add((byte) (word >> (i - 1) * 8));
        }
        return true;
    }

    String append(int kind) {
        byte[] bytes = new byte[tape.size()];
        for (int i = 0; i < bytes.length; i++) {
            bytes[i] = tape.get(i);
        }
        tape.clear();
        if (kind < 1 || kind > 255) {
            return Checks.ILLEGAL_ARGUMENT;
        }
        if (waiting.size() == 40 || come == 3000) {
            return Checks.ILLEGAL_STATE;
        }
        if (openPage == 0 || bytesOnOpenPage() + 2 + bytes.length > 51) {
            if (nextPage >= writtenOldest + 30) {
                return "0";
            }
            closeOpenPage();
            openPage = nextPage++;
        }
        Entry entry = new Entry(nextRecord++, kind, bytes, openPage);
        onOpenPage.add(entry);
        memory.add(entry);
        come++;
        return String.valueOf(entry.number());
    }

    private int bytesOnOpenPage() {
        return onOpenPage.stream().mapToInt(entry -> 2 + entry.bytes().length).sum();
    }

    private void closeOpenPage() {
        if (onOpenPage.isEmpty()) {
            return;
        }
        int[] bytes = new int[51];
        int at = 0;
        for (Entry entry : onOpenPage) {
            bytes[at++] = entry.kind();
            bytes[at++] = entry.bytes().length;
            for (byte b : entry.bytes()) {
                bytes[at++] = b;
            }
        }
        byte[] page = Checks.page(openPage, onOpenPage.get(0).number(), onOpenPage.size(), bytes);
        waiting.add(new Write(2 + (openPage - 1) % 30, page));
        onOpenPage = new ArrayList<>();
        openPage = 0;
    }

    int sync() {
        closeOpenPage();
        int n = waiting.size();
        waiting.forEach(this::carryOut);
        waiting = new ArrayList<>();
        return n;
    }

    private void carryOut(Write write) {
        disk[write.place()] = write.bytes().clone();
        if (write.place() < 2) {
            writtenOldest = u32(write.bytes(), 4);
        }
    }

    boolean keep(int n) {
        if (n <= kept || n > nextRecord || waiting.size() == 40) {
            return false;
        }
        int oldest = openPage != 0 ? openPage : nextPage;
        for (Entry entry : memory) {
            if (entry.number() == n) {
                oldest = entry.page();
            }
        }
        greatestTurn++;
        waiting.add(new Write(greatestTurn % 2, Checks.head(greatestTurn, oldest, n)));
        kept = n;
        memory.removeIf(entry -> entry.number() < n);
        return true;
    }

    String crash(int k, int c) {
        if (k < 0 || c < 0 || c > 64) {
            return Checks.ILLEGAL_ARGUMENT;
        }
        if (crashes == 300) {
            return Checks.ILLEGAL_STATE;
        }
        crashes++;
        for (int i = 0; i < waiting.size() && i <= k; i++) {
            Write write = waiting.get(i);
            System.arraycopy(write.bytes(), 0, disk[write.place()], 0, i < k ? 64 : c);
        }
        findAgain();
        return String.valueOf(memory.size());
    }

    private void findAgain() {
        waiting = new ArrayList<>();
        memory = new ArrayList<>();
        onOpenPage = new ArrayList<>();
        openPage = 0;
        boolean even = goodHead(0);
        boolean odd = goodHead(1);
        byte[] head = even && odd ? (u32(disk[0], 0) > u32(disk[1], 0) ? disk[0] : disk[1])
            : even ? disk[0] : odd ? disk[1] : Checks.head(0, 1, 1);
        greatestTurn = u32(head, 0);
        writtenOldest = u32(head, 4);
        kept = u32(head, 8);
        List<Entry> found = new ArrayList<>();
        int first = 0;
        nextPage = writtenOldest;
        while (nextPage < writtenOldest + 30) {
            byte[] page = disk[2 + (nextPage - 1) % 30];
            int pageFirst = u32(page, 4);
            if (!whole(page) || u32(page, 0) != nextPage || pageFirst < 1 || pageFirst > 1000000) {
                break;
            }
            if (first == 0 ? pageFirst > kept : pageFirst != first) {
                break;
            }
            List<Entry> entries = entriesOf(page);
            if (entries == null) {
                break;
            }
            found.addAll(entries);
            first = pageFirst + entries.size();
            nextPage++;
        }
        nextRecord = Math.max(kept, first);
        found.removeIf(entry -> entry.number() < kept);
        memory = found;
    }

    private boolean goodHead(int place) {
        byte[] head = disk[place];
        for (int at = 0; at <= 8; at += 4) {
            if (u32(head, at) < 1 || u32(head, at) > 1000000) {
                return false;
            }
        }
        return whole(head) && u32(head, 0) % 2 == place;
    }

    private static List<Entry> entriesOf(byte[] page) {
        List<Entry> entries = new ArrayList<>();
        int at = 9;
        for (int i = 0; i < (page[8] & 0xFF); i++) {
            if (at > 58) {
                return null;
            }
            int kind = page[at] & 0xFF;
            int n = page[at + 1] & 0xFF;
            at += 2 + n;
            if (kind == 0 || n > 40 || at > 60) {
                return null;
            }
            byte[] bytes = java.util.Arrays.copyOfRange(page, at - n, at);
            entries.add(new Entry(u32(page, 4) + i, kind, bytes, u32(page, 0)));
        }
        return entries;
    }

    private static int u32(byte[] bytes, int at) {
        return java.nio.ByteBuffer.wrap(bytes).getInt(at);
    }

    private static boolean whole(byte[] block) {
        return u32(block, 60) == Checks.crc(block);
    }

    boolean spoil(int block, int i, int v) {
        if (block < 0 || block > 31 || i < 0 || i > 63) {
            return false;
        }
        disk[block][i] = (byte) v;
        return true;
    }

    int disk(int block, int i) {
        return block < 0 || block > 31 || i < 0 || i > 63 ? -1 : disk[block][i] & 0xFF;
    }

    String record(int i, int what) {
        if (i < 0 || i >= memory.size() || what < 0 || what >= 4 + memory.get(i).bytes().length) {
            return Checks.NO_SUCH_ELEMENT;
        }
        Entry entry = memory.get(i);
        int answer = what == 0 ? entry.number() : what == 1 ? entry.kind() : what == 2 ? entry.bytes().length
            : what == 3 ? entry.page() : entry.bytes()[what - 4] & 0xFF;
        return String.valueOf(answer);
    }

    String write(int i, int what) {
        if (i < 0 || i >= waiting.size() || what < 0 || what > 64) {
            return Checks.NO_SUCH_ELEMENT;
        }
        return String.valueOf(what == 0 ? waiting.get(i).place() : waiting.get(i).bytes()[what - 1] & 0xFF);
    }

    int total(int what) {
        int[] totals = {memory.size(), kept, nextRecord, openPage, onOpenPage.size(), waiting.size(), writtenOldest,
            greatestTurn, crashes, nextPage};
        return what < 0 || what > 9 ? -1 : totals[what];
    }
}

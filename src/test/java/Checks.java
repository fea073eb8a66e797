import java.util.NoSuchElementException;
import java.util.zip.CRC32;

/** What the tests share: answers as text, a count of the wrong ones, BLOCKS forged on a journal's DISK. */
final class Checks {
    static final String ILLEGAL_ARGUMENT = "throws.IllegalArgumentException";
    static final String ILLEGAL_STATE = "throws.IllegalStateException";
    static final String NO_SUCH_ELEMENT = "throws.NoSuchElementException";

    private static final int MOST_SHOWN = 100;

    private static int wrong = 0;
    private static int made = 0;

    private Checks() { }

    static boolean due(String call, Object got, Object want) {
        made++;
        boolean good = String.valueOf(got).equals(String.valueOf(want));
        if (!good) {
            wrong++;
            if (wrong <= MOST_SHOWN) {
                System.out.println(call + " answered " + got + ", due is " + want);
            }
        }
        return good;
    }

    static boolean showsMore() {
        return wrong <= MOST_SHOWN;
    }

    static boolean anyWrong() {
        return wrong > 0;
    }

    static void end(String test) {
        System.out.println(test + ": " + made + " answers looked at, " + wrong + " not as due");
        if (wrong != 0) {
            System.exit(1);
        }
    }

    static String append(RoundJournal x, int kind) {
        try {
            return String.valueOf(x.append(kind));
        } catch (RuntimeException e) {
            return thrown(e);
        }
    }

    static String crash(RoundJournal x, int k, int c) {
        try {
            return String.valueOf(x.crash(k, c));
        } catch (RuntimeException e) {
            return thrown(e);
        }
    }

    static String record(RoundJournal x, int i, int what) {
        try {
            return String.valueOf(x.record(i, what));
        } catch (RuntimeException e) {
            return thrown(e);
        }
    }

    static String write(RoundJournal x, int i, int what) {
        try {
            return String.valueOf(x.write(i, what));
        } catch (RuntimeException e) {
            return thrown(e);
        }
    }

    // the exact class's name, so that what the machine throws is never taken for what the document asks
    static String thrown(RuntimeException e) {
        return "throws." + e.getClass().getSimpleName();
    }

    static int crc(byte[] block) {
        CRC32 crc = new CRC32();
        crc.update(block, 0, 60);
        return (int) crc.getValue();
    }

    static void u32(byte[] block, int at, int v) {
        for (int i = 0; i < 4; i++) {
            block[at + i] = (byte) (v >>> 24 - 8 * i);
        }
    }

    static byte[] sealed(byte[] block) {
        u32(block, 60, crc(block));
        return block;
    }

    static byte[] head(int turn, int oldest, int kept) {
        byte[] block = new byte[64];
        u32(block, 0, turn);
        u32(block, 4, oldest);
        u32(block, 8, kept);
        return sealed(block);
    }

    static byte[] page(int number, int first, int count, int... bytes) {
        byte[] block = new byte[64];
        u32(block, 0, number);
        u32(block, 4, first);
        block[8] = (byte) count;
        for (int i = 0; i < bytes.length; i++) {
            block[9 + i] = (byte) bytes[i];
        }
        return sealed(block);
    }

    /** The PAGE of one RECORD of 40 bytes, all of them as its number, that Journal.appendPages makes. */
    static byte[] filledPage(int number) {
        int[] bytes = new int[42];
        java.util.Arrays.fill(bytes, number);
        bytes[1] = 40;
        return page(number, number, 1, bytes);
    }

    /** Spoils just the bytes that differ, to spare an object's 512 calls. */
    static void forge(RoundJournal x, int block, byte[] bytes) {
        for (int i = 0; i < 64; i++) {
            int v = bytes[i] & 0xFF;
            if (x.disk(block, i) != v) {
                x.spoil(block, i, v);
            }
        }
    }

    static void dueBlock(String call, RoundJournal x, int block, byte[] want) {
        for (int i = 0; i < 64; i++) {
            due(call + ", disk(" + block + ", " + i + ")", x.disk(block, i), want[i] & 0xFF);
        }
    }

    static void dueWrite(String call, RoundJournal x, int i, int place, byte[] want) {
        due(call + ", write(" + i + ", 0)", write(x, i, 0), place);
        for (int k = 0; k < 64; k++) {
            due(call + ", write(" + i + ", " + (1 + k) + ")", write(x, i, 1 + k), want[k] & 0xFF);
        }
    }

    static void dueTotals(String call, RoundJournal x, int... want) {
        for (int what = 0; what < want.length; what++) {
            due(call + ", total(" + what + ")", x.total(what), want[what]);
        }
    }

    /** A RECORD with that many bytes, each of them v. */
    static String appendFilled(RoundJournal x, int kind, int n, int v) {
        for (int left = n; left > 0; left -= 8) {
            x.type(v * 0x0101010101010101L, Math.min(left, 8));
        }
        return append(x, kind);
    }
}

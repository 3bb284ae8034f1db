import java.util.Set;
import java.util.TreeSet;

/** What the tests share: rows as the document describes them, and the count of answers that are not as due. */
abstract class Checks {
    static final int NONE = -1, BAD = -2, CLOSED = -3, FULL = -4, LOST = -5;
    static final int BILLION = 1000000000;
    private static int wrong = 0;
    private static String where = "";
    private static String sentence = "";

    // ---- what is due

    static void promise(int number) {
        where = "promise " + number;
        sentence = "";
    }

    static void section(String name) {
        where = name;
        sentence = "";
    }

    /** The sentence of the document that is tested from here on. */
    static void says(String words) {
        sentence = " \"" + words + "\"";
    }

    static void due(String call, long got, long want) {
        if (got != want) tellWrong(call + " answered " + got + ", due is " + want);
    }

    static void due(String call, boolean got, boolean want) {
        due(call, got ? 1 : 0, want ? 1 : 0);
    }

    static void dueSame(String what, String got, String want) {
        if (!got.equals(want)) tellWrong(what + "\n  is        " + got + "\n  should be " + want);
    }

    private static void tellWrong(String text) {
        wrong++;
        if (wrong <= 40) System.out.println(where + sentence + ": " + text);
    }

    static void end(String good) {
        System.out.println(wrong == 0 ? good : wrong + " answers are not as due");
        if (wrong != 0) System.exit(1);
    }

    // ---- rows as the document describes them

    static long digest(int[] bytes, int from, int to) {
        long s = 0;
        for (int i = from; i < to; i++) s = Long.rotateLeft(s ^ bytes[i], 53) * 0xC2B2AE3D27D4EB4FL;
        return s;
    }

    static void put(int[] bytes, int at, long value, int n) {
        for (int k = 0; k < n; k++) bytes[at + k] = (int) (value >>> 8 * (n - 1 - k) & 255);
    }

    static int[] summed(int[] row) {
        put(row, 24, digest(row, 0, 24), 8);
        return row;
    }

    static int[] head(long serial, int... owners) {
        int[] row = new int[32];
        row[0] = 4;
        put(row, 4, serial, 4);
        for (int g = 0; g < owners.length; g++) put(row, 8 + 2 * g, owners[g], 2);
        return summed(row);
    }

    static int[] partRow(int group, int length, long number, long position, long digest) {
        int[] row = new int[32];
        row[0] = 1;
        row[1] = group;
        put(row, 2, length, 2);
        put(row, 4, number, 4);
        put(row, 8, position, 8);
        put(row, 16, digest, 8);
        return summed(row);
    }

    /** All rows of a PART of these bytes. */
    static int[][] partRows(int group, long number, long position, int... bytes) {
        int bodies = (bytes.length + 30) / 31;
        int[] all = new int[32 * bodies];
        for (int k = 0; k < bodies; k++) all[32 * k] = 5;
        for (int i = 0; i < bytes.length; i++) all[32 * (i / 31) + 1 + i % 31] = bytes[i] & 255;
        int[][] rows = new int[1 + bodies][];
        rows[0] = partRow(group, bytes.length, number, position, digest(all, 0, all.length));
        for (int k = 0; k < bodies; k++) rows[1 + k] = java.util.Arrays.copyOfRange(all, 32 * k, 32 * k + 32);
        return rows;
    }

    /** The rows of a MARK; of each PART: NUMBER, row, DIGEST. */
    static int[][] markRows(long number, long[]... parts) {
        int entries = (parts.length + 1) / 2;
        int[] all = new int[32 * entries];
        for (int k = 0; k < parts.length; k++) {
            int at = 32 * (k / 2) + 1 + 14 * (k % 2);
            all[32 * (k / 2)] = 6;
            put(all, at, parts[k][0], 4);
            put(all, at + 4, parts[k][1], 2);
            put(all, at + 6, parts[k][2], 8);
        }
        return markOfEntries(number, parts.length, all);
    }

    /** The rows of a MARK whose ENTRIES are just these bytes. */
    static int[][] markOfEntries(long number, int count, int[] all) {
        int[][] rows = new int[1 + all.length / 32][32];
        for (int e = 0; e < all.length / 32; e++) System.arraycopy(all, 32 * e, rows[1 + e], 0, 32);
        rows[0][0] = 2;
        rows[0][1] = count;
        put(rows[0], 4, number, 4);
        put(rows[0], 8, digest(all, 0, all.length), 8);
        summed(rows[0]);
        return rows;
    }

    static int[] altered(int[] row, int i, int value) {
        int[] other = row.clone();
        other[i] = value;
        return summed(other);
    }

    static void setRow(MarkLog x, int row, int[] bytes) {
        for (int i = 0; i < 32; i++) {
            int mask = x.byteAt(row, i) ^ bytes[i];
            if (mask != 0) x.poke(row, i, mask);
        }
    }

    static void setRows(MarkLog x, int row, int[][] rows) {
        for (int k = 0; k < rows.length; k++) setRow(x, row + k, rows[k]);
    }

    /** Rows from one on become something that is neither 0 nor of any kind. */
    static void spoil(MarkLog x, int from, int behind) {
        int[] row = new int[32];
        java.util.Arrays.fill(row, 0xEE);
        for (int r = from; r < behind; r++) setRow(x, r, row);
    }

    static long number(MarkLog x, int row, int at, int n) {
        long v = 0;
        for (int k = 0; k < n; k++) v = v << 8 | x.byteAt(row, at + k);
        return v;
    }

    static void dueRow(MarkLog x, int row, int[] want) {
        for (int i = 0; i < 32; i++) due("byteAt(" + row + ", " + i + ")", x.byteAt(row, i), want[i]);
    }

    static void dueRows(MarkLog x, int row, int[][] want) {
        for (int k = 0; k < want.length; k++) dueRow(x, row + k, want[k]);
    }

    static boolean isClear(MarkLog x, int row) {
        for (int i = 0; i < 32; i++) if (x.byteAt(row, i) != 0) return false;
        return true;
    }

    // ---- the TAPE

    static void feedBytes(MarkLog x, int... bytes) {
        for (int b : bytes) x.feed(b, 1);
    }

    /** So many bytes, beginning with a given one and rising. */
    static void feedRising(MarkLog x, int first, int n) {
        for (int k = 0; k < n; k++) x.feed(first + k, 1);
    }

    /** So many bytes in few calls. */
    static void feedMany(MarkLog x, int n) {
        for (int k = 0; k < n / 8; k++) x.feed(0x0807060504030201L, 8);
        if (n % 8 > 0) x.feed(0x0807060504030201L, n % 8);
    }

    static int partOfLength(MarkLog x, int n) {
        feedRising(x, 1, n);
        return x.part(0, 0);
    }

    // ---- SAVEPOINTS

    static int[] savepoint(MarkLog x, int mark) {
        int n = x.out(mark, NONE);
        int[] all = new int[Math.max(0, n)];
        for (int i = 0; i < n; i++) all[i] = x.out(mark, i);
        return all;
    }

    static int[] savepointOf(int count, int... parts) {
        int[] all = new int[2 + parts.length + 8];
        all[0] = 77;
        all[1] = count;
        System.arraycopy(parts, 0, all, 2, parts.length);
        put(all, all.length - 8, digest(all, 0, all.length - 8), 8);
        return all;
    }

    /** One PART as a SAVEPOINT tells it, of so many bytes. */
    static int[] partOut(int group, long position, int length) {
        int[] all = new int[11 + length];
        all[0] = group;
        put(all, 1, position, 8);
        put(all, 9, length, 2);
        for (int i = 0; i < length; i++) all[11 + i] = 1 + i & 255;
        return all;
    }

    static int[] joined(int[]... pieces) {
        int[] all = new int[0];
        for (int[] piece : pieces) {
            int at = all.length;
            all = java.util.Arrays.copyOf(all, at + piece.length);
            System.arraycopy(piece, 0, all, at, piece.length);
        }
        return all;
    }

    static int[] repeated(int count, int... one) {
        int[] all = new int[0];
        for (int k = 0; k < count; k++) all = joined(all, one);
        return all;
    }

    static int in(MarkLog x, int... bytes) {
        feedBytes(x, bytes);
        return x.in();
    }

    // ---- all that can be seen

    static int[] medium(MarkLog x) {
        int[] all = new int[32 * x.told(1)];
        for (int k = 0; k < all.length; k++) all[k] = x.byteAt(k / 32, k % 32);
        return all;
    }

    /** All that the log tells of itself, but for the TAPE, the power, and how many bytes were written ever. */
    static String state(MarkLog x) {
        StringBuilder text = new StringBuilder();
        for (int what = 0; what <= 16; what++) if (what != 2) text.append(' ').append(x.told(what));
        text.append(" badAt ").append(x.badAt()).append(" usable ").append(x.usable()).append(" marks");
        for (int k = -1; k <= x.marks(NONE); k++) text.append(' ').append(x.marks(k));
        for (int mark : marksSeen(x)) {
            text.append("; ").append(mark).append(": ").append(x.whole(mark)).append(' ').append(x.out(mark, NONE));
            for (int k = -1; k <= 12; k++) text.append(' ').append(x.markOf(mark, k));
        }
        for (int part = Math.max(0, x.told(5) - 30); part <= x.told(5); part++) {
            text.append("; part ").append(part).append(": ").append(x.named(part));
            for (int what = 0; what <= 5; what++) text.append(' ').append(x.partOf(part, what));
        }
        return text.append("; ").append(java.util.Arrays.toString(medium(x))).toString();
    }

    private static Set<Integer> marksSeen(MarkLog x) {
        Set<Integer> all = new TreeSet<>();
        for (int k = 0; k < x.marks(NONE); k++) all.add(x.marks(k));
        for (int k = 0; k < 20; k++) all.add(x.told(6) - k);
        return all;
    }
}

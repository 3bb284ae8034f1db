import java.util.function.Supplier;
import java.util.function.ToIntFunction;

/** Power that goes at every byte of every call that writes: what was written till then, and what is known afterwards. */
public final class PowerTest extends Checks {
    /** What is known after OPENING, when so many bytes were written. */
    private interface Known {
        void check(String name, MarkLog x, int bytes);
    }

    /** The rows in the order in which they are written; power goes at the first byte, at each one, and behind the last. */
    private static void everyByte(String name, Supplier<MarkLog> made, ToIntFunction<MarkLog> call, int[] rows, Known known) {
        int total = 32 * rows.length;
        MarkLog whole = made.get();
        int[] before = medium(whole);
        int answer = call.applyAsInt(whole);
        int[] after = medium(whole);
        due(name + " is no refusal", answer >= 0, true);
        for (int n = 0; n <= total; n++) {
            MarkLog x = made.get();
            int written = x.told(2);
            due("cut(" + n + ")", x.cut(n), true);
            due(name + " with " + n, call.applyAsInt(x), n < total ? LOST : answer);
            due("told(0) of " + name + " with " + n, x.told(0), n < total ? 0 : 1);
            due("bytes of " + name + " with " + n, x.told(2) - written, n);
            if (n < total) dueClosed(name + " with " + n, x);
            dueWritten(name + " with " + n, medium(x), before, after, rows, n);
            x.open();
            due("open() of " + name + " with " + n, x.told(0), 1);
            dueAsRead(name + " with " + n, x);
            known.check(name + " with " + n, x, n);
            if (n < total) duePowered(name + " with " + n, x);
            else due("power goes at the next byte", x.owner(0), LOST);
        }
    }

    private static void dueClosed(String name, MarkLog x) {
        due("close() after " + name, x.close(), false);
        due("marks(-1) after " + name, x.marks(NONE), CLOSED);
        due("told(4) after " + name, x.told(4), 0);
        due("the TAPE after " + name, x.wipe(), 0);
    }

    /** Of the bytes, in their order, just so many are as they become; all others are as they were. */
    private static void dueWritten(String name, int[] got, int[] before, int[] after, int[] rows, int n) {
        int[] want = before.clone();
        for (int k = 0; k < n; k++) {
            int at = 32 * rows[k / 32] + k % 32;
            want[at] = after[at];
        }
        for (int at = 0; at < want.length; at++) {
            if (got[at] != want[at]) due("byte " + at % 32 + " of row " + at / 32 + " of " + name, got[at], want[at]);
        }
    }

    /** What is known after OPENING is what stands on the medium, and nothing else. */
    private static void dueAsRead(String name, MarkLog x) {
        MarkLog y = new MarkLog(x.told(1));
        for (int row = 0; row < x.told(1); row++) {
            int[] bytes = new int[32];
            for (int i = 0; i < 32; i++) bytes[i] = x.byteAt(row, i);
            setRow(y, row, bytes);
        }
        y.open();
        dueSame("what is known after " + name, state(x), state(y));
    }

    /** Power that went is there again. */
    private static void duePowered(String name, MarkLog x) {
        int written = x.told(2);
        int had = x.told(9);
        due("owner(0) after " + name, x.owner(0), had + 1);
        due("owner(0) after " + name, x.owner(0), had + 2);
        due("bytes after " + name, x.told(2) - written, 64);
    }

    // ---- the calls that write

    private static MarkLog spoiled(int rows) {
        MarkLog x = new MarkLog(rows);
        spoil(x, 2, rows);
        return x;
    }

    private static void parts() {
        promise(4);
        says("A PART .. is written so: the rows behind the first, in order, then the first one; each row from its first byte on");
        for (int length : new int[] {0, 1, 62, 155}) {
            int count = 1 + (length + 30) / 31;
            int[] rows = new int[count];
            for (int k = 1; k < count; k++) rows[k - 1] = 2 + k;
            rows[count - 1] = 2;
            everyByte("part of " + length, () -> fedFor(spoiled(9), length), x -> x.part(5, -9), rows, (name, x, n) -> {
                due("PARTS after " + name, x.told(4), n == 32 * count ? 1 : 0);
                due("greatest PART after " + name, x.told(5), n == 32 * count ? 1 : 0);
            });
        }
    }

    private static MarkLog fedFor(MarkLog x, int length) {
        feedRising(x, 1, length);
        return x;
    }

    private static void staleRows() {
        says("Rows that belong to no PART .. are FREE, whatever they are (what stood in them stays till it is written over)");
        // row 2 is PART 1; rows 3 to 5 are a second PART 1, whose rows are FREE
        everyByte("part over a second PART", () -> {
            MarkLog x = new MarkLog(7);
            setRow(x, 2, partRow(1, 0, 1, 0, 0));
            setRows(x, 3, partRows(2, 1, 0, repeated(40, 7)));
            x.open();
            return fedFor(x, 40);
        }, x -> x.part(5, -9), new int[] {4, 5, 3}, (name, x, n) -> {
            due("PARTS after " + name, x.told(4), n == 96 ? 2 : 1);
            due("GROUP of PART 1 after " + name, x.partOf(1, 0), 1);
        });
    }

    /** The last byte may stand there before it is written: what is read is all that counts. */
    private static void lastByteThere() {
        says("the byte that would come then is not written, and the log is CLOSED at once");
        MarkLog x = new MarkLog(6);
        setRow(x, 2, partRow(3, 0, 1, 8, 0));
        x.cut(31);
        due("part", x.part(3, 8), LOST);
        due("told(0)", x.told(0), 0);
        x.open();
        due("PARTS: its last byte stood there", x.told(4), 1);
        MarkLog y = new MarkLog(6);
        y.cut(31);
        due("part", y.part(3, 8), LOST);
        due("bytes written", y.told(2), 31);
        y.open();
        due("PARTS: its last byte is not there", y.told(4), 0);
        due("part", y.part(3, 8), 1);
        due("row", y.partOf(1, 3), 2);
    }

    private static MarkLog made(int count) {
        MarkLog x = spoiled(22);
        for (int k = 1; k <= count; k++) x.part(0, k);
        x.mark(count);
        x.mark(1);
        return x;
    }

    private static void marks() {
        promise(6);
        says("A .. MARK is written so: the rows behind the first, in order, then the first one; each row from its first byte on");
        for (int count : new int[] {1, 2, 3, 12}) {
            int rowCount = 1 + (count + 1) / 2;
            int[] rows = new int[rowCount];
            for (int k = 1; k < rowCount; k++) rows[k - 1] = 2 + count + k;
            rows[rowCount - 1] = 2 + count;
            everyByte("keep of " + count, () -> made(count), x -> x.keep(1), rows, (name, x, n) -> {
                boolean isKept = n == 32 * rowCount;
                due("marks(-1) after " + name, x.marks(NONE), isKept ? 1 : 0);
                due("usable() after " + name, x.usable(), isKept ? 1 : NONE);
                due("MARKS not kept after " + name, x.told(8), 0);
                due("greatest MARK after " + name, x.told(6), isKept ? 1 : 0);
                due("PARTS after " + name, x.told(4), count);
            });
        }
    }

    private static void owners() {
        promise(8);
        says("owners' numbers in two heads by turns");
        for (int had = 0; had <= 3; had++) {
            int times = had;
            everyByte("owner(3) behind " + had, () -> {
                MarkLog x = new MarkLog(4);
                for (int k = 0; k < times; k++) x.owner(3);
                return x;
            }, x -> x.owner(3), new int[] {(had + 1) % 2}, (name, x, n) -> {
                due("told(12) after " + name, x.told(12), n < 32 ? times : times + 1);
                due("SERIAL after " + name, x.told(7), n < 32 ? times : times + 1);
                // a HEAD that stood there has the same 7 bytes, but another SERIAL behind them
                boolean isBegun = n > (times < 2 ? 0 : 7) && n < 32;
                due("badAt() after " + name, x.badAt(), isBegun ? (times + 1) % 2 : NONE);
            });
        }
    }

    /** PARTS 1 to 3 in rows 2, 3 and 4, 5; MARK 3 in rows 6 and 7, MARK 1 in 8 and 9, MARK 2 in 10 to 12; PART 4 in row 13. */
    private static MarkLog toDrop() {
        MarkLog x = new MarkLog(16);
        x.part(0, 1);
        partOfLength(x, 9);
        x.mark(1);
        x.part(0, 3);
        x.mark(3);
        x.mark(1);
        x.keep(3);
        x.keep(1);
        x.keep(2);
        x.part(0, 4);
        return x;
    }

    private static void drops() {
        promise(9);
        says("those before, from the oldest on, are taken back; then, from the least NUMBER on, PARTS .. Rows that are taken back become all 0, the first one first");
        int[] all = {8, 9, 10, 11, 12, 6, 7, 2, 3, 4, 5};
        everyByte("drop(0)", PowerTest::toDrop, x -> x.drop(0), all, (name, x, n) -> {
            due("MARK 1 after " + name, x.markOf(1, NONE), n > 0 ? NONE : 1);
            due("MARK 2 after " + name, x.markOf(2, NONE), n > 64 ? NONE : 3);
            due("MARK 3 after " + name, x.markOf(3, NONE), n > 160 ? NONE : 1);
            due("PART 1 after " + name, x.partOf(1, 1), n > 224 ? NONE : 1);
            due("PART 2 after " + name, x.partOf(2, 2), n > 256 ? NONE : 9);
            due("PART 3 after " + name, x.partOf(3, 1), n > 320 ? NONE : 3);
            due("PART 4 after " + name, x.partOf(4, 1), 4);
            due("usable() after " + name, x.usable(), n > 160 ? NONE : 3);
        });
        int[] some = {8, 9, 10, 11, 12, 2, 3, 4};
        everyByte("drop(1)", PowerTest::toDrop, x -> x.drop(1), some, (name, x, n) -> {
            due("usable() after " + name, x.usable(), 3);
            due("marks(-1) after " + name, x.marks(NONE), n == 0 ? 3 : n <= 64 ? 2 : 1);
            due("PARTS after " + name, x.told(4), n <= 160 ? 4 : n <= 192 ? 3 : 2);
        });
        MarkLog x = toDrop();
        x.cut(0);
        due("drop(3): nothing is taken back, so no power is needed", x.drop(3), 0);
        due("told(0)", x.told(0), 1);
    }

    private static void ins() {
        promise(24);
        says("its PARTS are written .. LOST");
        int[] all = savepointOf(3, joined(partOut(1, 1, 32), partOut(2, 2, 0), partOut(3, 3, 1)));
        everyByte("in()", () -> {
            MarkLog x = spoiled(10);
            feedBytes(x, all);
            return x;
        }, x -> x.in(), new int[] {3, 4, 2, 5, 7, 6}, (name, x, n) -> {
            due("PARTS after " + name, x.told(4), n < 96 ? 0 : n < 128 ? 1 : n < 192 ? 2 : 3);
            due("greatest PART after " + name, x.told(5), n < 96 ? 0 : n < 128 ? 1 : n < 192 ? 2 : 3);
            due("MARKS not kept after " + name, x.told(8), 0);
            due("greatest MARK after " + name, x.told(6), 0);
        });
    }

    public static void main(String[] args) {
        parts();
        staleRows();
        lastByteThere();
        marks();
        owners();
        drops();
        ins();
        end("power may go at any byte");
    }
}

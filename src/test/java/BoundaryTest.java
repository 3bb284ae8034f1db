/** Each sentence of the promises that names a boundary: at it, just inside and just outside of it. */
public final class BoundaryTest extends Checks {
    private static final int[] NO_NUMBERS = {0, -1, -2, Integer.MIN_VALUE, Integer.MAX_VALUE};

    // ---- promise 1

    private static void newObject() {
        says("A medium of so many rows (4 .. 512, else the nearer one)");
        int[][] sizes = {{Integer.MIN_VALUE, 4}, {-512, 4}, {-1, 4}, {0, 4}, {1, 4}, {3, 4}, {4, 4}, {5, 5}, {6, 6}, {511, 511}, {512, 512},
            {513, 512}, {1024, 512}, {Integer.MAX_VALUE, 512}};
        for (int[] s : sizes) {
            MarkLog x = new MarkLog(s[0]);
            due("rows of " + s[0], x.told(1), s[1]);
            due("the last row of " + s[0], x.byteAt(s[1] - 1, 31), 0);
            due("the row behind it", x.byteAt(s[1], 0), BAD);
            due("FREE of " + s[0], x.told(3), s[1] - 2);
        }
        says("ROWS .. of 32 bytes each, all 0 at first");
        for (int rows : new int[] {4, 5, 512}) {
            MarkLog x = new MarkLog(rows);
            for (int row = 0; row < rows; row++) due("row " + row, isClear(x, row), true);
        }
        says("OPEN, knowing nothing");
        MarkLog x = new MarkLog(9);
        due("told(0)", x.told(0), 1);
        for (int what = 4; what <= 16; what++) due("told(" + what + ")", x.told(what), 0);
        due("marks(-1)", x.marks(NONE), 0);
        due("usable()", x.usable(), NONE);
        due("badAt()", x.badAt(), NONE);
        due("wipe()", x.wipe(), 0);
        due("power stays", x.owner(0), 1);
        due("close()", x.close(), true);
        MarkLog other = new MarkLog(9);
        due("another object knows nothing of this one", other.told(9), 0);
        due("nor is it CLOSED", other.told(0), 1);
    }

    private static void fewestRows() {
        says("rows (4 ..): two rows are there for all but HEADS");
        for (int length : new int[] {0, 1, 31, 32}) {
            MarkLog x = new MarkLog(4);
            due("part of " + length, partOfLength(x, length), length < 32 ? 1 : FULL);
        }
        MarkLog x = new MarkLog(4);
        x.part(0, 0);
        x.mark(1);
        due("keep(1) with one row", x.keep(1), FULL);
        due("whole(1)", x.whole(1), 1);
        due("part", x.part(0, 0), 2);
        due("part", x.part(0, 0), FULL);
        due("owner(0)", x.owner(0), 1);
        due("owner(0)", x.owner(0), 2);
        MarkLog y = new MarkLog(5);
        y.part(0, 0);
        y.mark(1);
        due("keep(1) with two rows", y.keep(1), 1);
        due("FREE", y.told(3), 0);
    }

    private static void mostRows() {
        says("rows (.. 512): the last row is 511");
        MarkLog x = new MarkLog(512);
        setRow(x, 300, partRow(0, 0, 1, 0, 0));
        setRow(x, 509, partRow(0, 0, 2, 0, 0));
        x.open();
        x.part(0, 0);
        x.mark(3);
        x.keep(1);
        dueRows(x, 3, markRows(1, new long[] {1, 300, 0}, new long[] {2, 509, 0}, new long[] {3, 2, 0}));
        due("whole(1)", x.whole(1), 1);
        due("open()", x.open(), 1);
        due("whole(1)", x.whole(1), 1);
        MarkLog y = new MarkLog(512);
        setRow(y, 509, partRow(0, 0, 1, 0, 0));
        for (int row = 2; row < 509; row += 3) setRow(y, row, partRow(0, 62, row, 0, 0));
        y.open();
        due("FREE", y.told(3), 2);
        y.mark(1);
        due("keep(1)", y.keep(1), 1);
        due("its first row", y.byteAt(510, 0), 2);
        due("its last row", y.byteAt(511, 0), 6);
        due("open()", y.open(), 1);
        due("FREE", y.told(3), 0);
    }

    // ---- promise 2

    private static void feed() {
        says("BAD: n is not 1 .. 8");
        MarkLog x = new MarkLog(9);
        for (int n : new int[] {0, 9, -1, -8, 10, Integer.MIN_VALUE, Integer.MAX_VALUE}) due("feed(5, " + n + ")", x.feed(5, n), BAD);
        due("the TAPE", x.wipe(), 0);
        int has = 0;
        for (int n = 1; n <= 8; n++) due("feed(5, " + n + ")", x.feed(5, n), has += n);
        due("wipe()", x.wipe(), 36);

        says("The n lowest bytes of a number, the lowest first, come behind the TAPE");
        for (int n = 1; n <= 8; n++) {
            MarkLog y = new MarkLog(9);
            y.feed(0x77, 1);
            due("feed(.., " + n + ")", y.feed(0xF1E2D3C4B5A69788L, n), n + 1);
            y.part(0, 0);
            int[] bytes = {0x77, 0x88, 0x97, 0xA6, 0xB5, 0xC4, 0xD3, 0xE2, 0xF1};
            for (int i = 0; i <= n; i++) due("byte " + i, y.partByte(1, i), bytes[i]);
            due("byte behind", y.partByte(1, n + 1), NONE);
        }
        MarkLog z = new MarkLog(9);
        z.feed(Long.MIN_VALUE, 8);
        z.feed(Long.MAX_VALUE, 8);
        z.part(0, 0);
        int[] bytes = {0, 0, 0, 0, 0, 0, 0, 128, 255, 255, 255, 255, 255, 255, 255, 127};
        for (int i = 0; i < 16; i++) due("byte " + i, z.partByte(1, i), bytes[i]);
    }

    private static void feedFull() {
        says("FULL: more than 2000");
        for (int n = 1; n <= 8; n++) {
            MarkLog x = new MarkLog(9);
            feedMany(x, 2001 - n);
            due("feed(1, " + n + ") at " + (2001 - n), x.feed(1, n), FULL);
            due("the TAPE", x.wipe(), 2001 - n);
            feedMany(x, 2000 - n);
            due("feed(1, " + n + ") at " + (2000 - n), x.feed(1, n), 2000);
            for (int k = 1; k <= 8; k++) due("feed(1, " + k + ") at 2000", x.feed(1, k), FULL);
            for (int k : new int[] {0, 9}) due("feed(1, " + k + ") at 2000", x.feed(1, k), BAD);
            due("the TAPE", x.wipe(), 2000);
        }
        MarkLog y = new MarkLog(100);
        int[] all = savepointOf(12, joined(repeated(11, partOut(1, 2, 155)), partOut(1, 2, 153)));
        due("a SAVEPOINT of 2000 bytes", all.length, 2000);
        feedBytes(y, all);
        due("one more", y.feed(1, 1), FULL);
        due("what FULL refused is not on the TAPE", y.in(), 1);

        says("(Also CLOSED.)");
        MarkLog z = new MarkLog(9);
        z.close();
        due("feed(7, 1)", z.feed(7, 1), 1);
        due("feed(7, 0)", z.feed(7, 0), BAD);
        z.open();
        due("feed(8, 1): the TAPE stays over open()", z.feed(8, 1), 2);
        z.close();
        feedMany(z, 1998);
        due("feed(7, 1) at 2000", z.feed(7, 1), FULL);
    }

    // ---- promise 3

    private static void wipe() {
        says("The TAPE is empty: how many bytes it had");
        MarkLog x = new MarkLog(9);
        due("wipe() of nothing", x.wipe(), 0);
        for (int n : new int[] {1, 8, 155, 156, 1999, 2000}) {
            feedMany(x, n);
            due("wipe() of " + n, x.wipe(), n);
            due("wipe() again", x.wipe(), 0);
        }
        x.feed(9, 1);
        x.part(0, 0);
        due("length: what was wiped is not there", x.partOf(1, 2), 1);
        dueRows(x, 2, partRows(0, 1, 0, 9));
        says("(Also CLOSED.)");
        x.feed(1, 3);
        x.close();
        due("wipe()", x.wipe(), 3);
        due("wipe()", x.wipe(), 0);
    }

    // ---- promise 4

    private static void partLengths() {
        says("length (2 bytes, 0 .. 155) .. BODIES, as many as the length needs (0 for none): 5 and 31 bytes (0s behind the last one)");
        int[][] lengths = {{0, 1}, {1, 2}, {30, 2}, {31, 2}, {32, 3}, {61, 3}, {62, 3}, {63, 4}, {93, 4}, {94, 5}, {124, 5}, {125, 6}, {154, 6}, {155, 6}};
        for (int[] l : lengths) {
            MarkLog x = new MarkLog(12);
            spoil(x, 2, 12);
            int[] bytes = new int[l[0]];
            for (int i = 0; i < l[0]; i++) bytes[i] = 255 - i;
            feedBytes(x, bytes);
            due("part of " + l[0], x.part(3, -7), 1);
            dueRows(x, 2, partRows(3, 1, -7, bytes));
            due("bytes written", x.told(2), 32 * l[1]);
            due("FREE", x.told(3), 10 - l[1]);
            due("the row behind", x.byteAt(2 + l[1], 0), 0xEE);
            due("length", x.partOf(1, 2), l[0]);
            x.open();
            due("WHOLE after OPENING", x.partOf(1, 4), 1);
        }
        says("BAD (also more than 155 bytes)");
        for (int length : new int[] {156, 157, 255, 256, 411, 2000}) {
            MarkLog x = new MarkLog(512);
            feedMany(x, length);
            due("part of " + length, x.part(0, 0), BAD);
            due("bytes written", x.told(2), 0);
            due("PARTS", x.told(4), 0);
            says("The TAPE (empty then)");
            due("wipe() behind BAD", x.wipe(), 0);
            says("BAD (also more than 155 bytes)");
        }
    }

    private static void partArguments() {
        says("of a GROUP (0 .. 7)");
        MarkLog x = new MarkLog(20);
        for (int group : new int[] {-1, 8, 9, 255, 256, -256, Integer.MIN_VALUE, Integer.MAX_VALUE}) {
            x.feed(1, 1);
            due("part(" + group + ", 0)", x.part(group, 0), BAD);
            due("wipe()", x.wipe(), 0);
        }
        due("bytes written", x.told(2), 0);
        for (int group = 0; group < 8; group++) {
            due("part(" + group + ", 0)", x.part(group, 0), group + 1);
            due("GROUP", x.partOf(group + 1, 0), group);
            due("its byte", x.byteAt(2 + group, 1), group);
        }
        says("with a POSITION");
        long[] positions = {Long.MIN_VALUE, Long.MIN_VALUE + 1, -1, 0, 1, 0xFFFFFFFFL, 0x100000000L, Long.MAX_VALUE};
        for (int k = 0; k < positions.length; k++) {
            due("part", x.part(0, positions[k]), 9 + k);
            due("POSITION", x.partOf(9 + k, 1), positions[k]);
            due("its bytes", number(x, 10 + k, 8, 8), positions[k]);
        }
        x.open();
        for (int k = 0; k < positions.length; k++) due("POSITION after OPENING", x.partOf(9 + k, 1), positions[k]);
    }

    private static void partTape() {
        says("The TAPE (empty then)");
        MarkLog x = new MarkLog(5);
        x.feed(7, 1);
        due("part", x.part(0, 0), 1);
        due("wipe()", x.wipe(), 0);
        x.feed(7, 1);
        due("part", x.part(0, 0), FULL);
        due("wipe() behind FULL", x.wipe(), 0);
        x.cut(0);
        due("part", x.part(0, 0), LOST);
        x.open();
        x.cut(31);
        due("part", x.part(0, 0), LOST);
        due("wipe() behind LOST", x.wipe(), 0);
        x.feed(7, 1);
        due("part", x.part(0, 0), CLOSED);
        due("wipe() behind CLOSED", x.wipe(), 0);
        MarkLog y = new MarkLog(9);
        y.feed(7, 2);
        y.cut(10);
        due("part", y.part(0, 0), LOST);
        due("wipe() behind LOST", y.wipe(), 0);
    }

    private static void partNumbers() {
        says("its NUMBER, 1 more than the greatest");
        MarkLog x = new MarkLog(20);
        setRow(x, 9, partRow(0, 0, 40, 0, 0));
        setRow(x, 10, partRow(0, 0, 30, 0, 0));
        x.open();
        due("part", x.part(0, 0), 41);
        x.mark(2);
        x.keep(1);
        x.drop(0);
        due("PARTS: all were dropped", x.told(4), 0);
        due("part: NUMBERS do not come again", x.part(0, 0), 42);
        due("bytes of the NUMBER", number(x, 2, 4, 4), 42);

        says("FULL (also with the NUMBER 1000000000)");
        for (int below = 2; below >= 0; below--) {
            MarkLog y = new MarkLog(9);
            setRow(y, 5, partRow(0, 0, BILLION - below, 0, 0));
            y.open();
            for (int k = 1; k <= below; k++) due("part", y.part(0, 0), BILLION - below + k);
            y.feed(1, 1);
            due("part behind the last NUMBER", y.part(0, 0), FULL);
            due("wipe()", y.wipe(), 0);
            due("greatest", y.told(5), BILLION);
            due("bytes written", y.told(2), 32 * below);
        }
        MarkLog z = new MarkLog(9);
        setRows(z, 5, markRows(1, new long[] {BILLION, 3, 0}));
        z.open();
        due("part: the NUMBER stands in an ENTRY", z.part(0, 0), FULL);
    }

    private static void partFull() {
        says("FULL no room");
        for (int rows = 4; rows <= 10; rows++) {
            for (int length : new int[] {0, 1, 31, 32, 62, 63, 93, 94, 124, 125, 155}) {
                MarkLog x = new MarkLog(rows);
                boolean isRoom = 1 + (length + 30) / 31 <= rows - 2;
                due("part of " + length + " in " + rows + " rows", partOfLength(x, length), isRoom ? 1 : FULL);
                due("wipe()", x.wipe(), 0);
                if (!isRoom) due("bytes written", x.told(2), 0);
                if (!isRoom) due("the greatest stays", x.told(5), 0);
            }
        }
        says("rows .. one behind the other, that are enough");
        MarkLog x = new MarkLog(9);
        setRow(x, 4, partRow(0, 0, 1, 0, 0));
        setRow(x, 7, partRow(0, 0, 2, 0, 0));
        x.open();
        due("FREE", x.told(3), 5);
        due("part of 3 rows", partOfLength(x, 32), FULL);
        due("part of 2 rows", partOfLength(x, 1), 3);
        due("part of 2 rows", partOfLength(x, 31), 4);
        due("part of 2 rows", partOfLength(x, 1), FULL);
        due("part of 1 row", partOfLength(x, 0), 5);
        due("part of 1 row", partOfLength(x, 0), FULL);
    }

    // ---- promise 5

    private static void markCounts() {
        says("so many (1 .. 12)");
        MarkLog x = new MarkLog(40);
        for (int k = 1; k <= 14; k++) x.part(0, k);
        for (int n : new int[] {0, 13, 14, -1, Integer.MIN_VALUE, Integer.MAX_VALUE}) due("mark(" + n + ")", x.mark(n), BAD);
        due("greatest MARK", x.told(6), 0);
        int[] counts = {1, 2, 11, 12};
        for (int k = 0; k < 4; k++) {
            due("mark(" + counts[k] + ")", x.mark(counts[k]), k + 1);
            due("how many", x.markOf(k + 1, NONE), counts[k]);
            due("the first", x.markOf(k + 1, 0), 15 - counts[k]);
            due("the last", x.markOf(k + 1, counts[k] - 1), 14);
        }
        says("NONE: there are not so many");
        for (int known = 0; known <= 12; known++) {
            MarkLog y = new MarkLog(40);
            for (int k = 0; k < known; k++) y.part(0, k);
            if (known < 12) due("mark(" + (known + 1) + ") of " + known, y.mark(known + 1), NONE);
            due("greatest MARK", y.told(6), 0);
            due("mark(" + known + ") of " + known, y.mark(known), known == 0 ? BAD : 1);
            due("mark(13) of " + known, y.mark(13), BAD);
        }
        MarkLog z = new MarkLog(20);
        setRows(z, 5, markRows(1, new long[] {1, 2, 0}, new long[] {2, 3, 0}));
        z.open();
        due("mark(1): PARTS in ENTRIES are not known", z.mark(1), NONE);
    }

    private static void markLatest() {
        says("of the latest PARTS by NUMBERS");
        MarkLog x = new MarkLog(20);
        int[] numbers = {50, 7, 90, 8};
        for (int k = 0; k < 4; k++) setRow(x, 4 + k, partRow(0, 0, numbers[k], 0, 0));
        x.open();
        due("mark(3)", x.mark(3), 1);
        int[] want = {8, 50, 90, NONE};
        for (int k = 0; k < 4; k++) due("markOf(1, " + k + ")", x.markOf(1, k), want[k]);
        x.poke(6, 9, 1);
        due("mark(1): also one that is not WHOLE", x.mark(1), 2);
        due("markOf(2, 0)", x.markOf(2, 0), 90);
        x.part(0, 0);
        due("markOf(1, 2): what comes later is not in it", x.markOf(1, 2), 90);
    }

    private static void markFull() {
        says("FULL: six are not kept");
        MarkLog x = new MarkLog(30);
        x.part(0, 0);
        for (int k = 1; k <= 6; k++) {
            due("mark(1)", x.mark(1), k);
            due("MARKS not kept", x.told(8), k);
        }
        due("the seventh", x.mark(1), FULL);
        due("greatest MARK", x.told(6), 6);
        x.keep(3);
        due("five are not kept", x.mark(1), 7);
        due("six again", x.mark(1), FULL);
        x.give(7);
        due("five again", x.mark(1), 8);
        due("six again", x.mark(1), FULL);
        x.open();
        due("none is not kept", x.told(8), 0);
        for (int k = 4; k <= 9; k++) due("mark(1)", x.mark(1), k);
        due("six", x.mark(1), FULL);

        says("or the NUMBER is 1000000000");
        for (int below = 2; below >= 0; below--) {
            MarkLog y = new MarkLog(9);
            setRows(y, 5, markRows(BILLION - below, new long[] {1, 2, 0}));
            y.open();
            y.part(0, 0);
            for (int k = 1; k <= below; k++) due("mark(1)", y.mark(1), BILLION - below + k);
            due("mark(1) behind the last NUMBER", y.mark(1), FULL);
            due("greatest MARK", y.told(6), BILLION);
            due("MARKS not kept", y.told(8), below);
        }
        says("its NUMBER, 1 more than the greatest");
        MarkLog z = new MarkLog(9);
        z.part(0, 0);
        z.mark(1);
        z.mark(1);
        z.give(2);
        due("mark(1): NUMBERS do not come again", z.mark(1), 3);
        z.keep(3);
        z.drop(0);
        z.part(0, 0);
        due("mark(1): nor after a drop", z.mark(1), 4);
        due("bytes: a MARK that is not kept has none", z.told(2), 32 * (1 + 2 + 2 + 1));
    }

    // ---- promise 6

    private static void keepNone() {
        says("NONE: none such that is not kept");
        MarkLog x = new MarkLog(30);
        for (int mark : NO_NUMBERS) due("keep(" + mark + ") of nothing", x.keep(mark), NONE);
        x.part(0, 0);
        for (int k = 1; k <= 4; k++) x.mark(1);
        due("keep(5): never made", x.keep(5), NONE);
        due("keep(4)", x.keep(4), 1);
        due("keep(4): kept", x.keep(4), NONE);
        x.give(3);
        due("keep(3): given up", x.keep(3), NONE);
        due("keep(1)", x.keep(1), 1);
        for (int mark : NO_NUMBERS) due("keep(" + mark + ")", x.keep(mark), NONE);
        x.open();
        due("keep(2): no more", x.keep(2), NONE);
        due("marks(-1)", x.marks(NONE), 2);
        due("bytes written", x.told(2), 32 * 5);
    }

    private static void keepRows() {
        says("MARK, likewise: 2; how many PARTS (1 .. 12) .. ENTRIES, two PARTS in each");
        for (int count = 1; count <= 12; count++) {
            MarkLog x = new MarkLog(24);
            spoil(x, 2, 24);
            long[][] parts = new long[count][];
            for (int k = 0; k < count; k++) {
                x.part(k % 8, k);
                parts[k] = new long[] {k + 1, 2 + k, 0};
            }
            x.mark(count);
            int before = x.told(2);
            due("keep(1) of " + count, x.keep(1), 1);
            int[][] rows = markRows(1, parts);
            dueRows(x, 2 + count, rows);
            due("bytes written", x.told(2) - before, 32 * rows.length);
            due("FREE", x.told(3), 22 - count - rows.length);
            due("the row behind", x.byteAt(2 + count + rows.length, 0), 0xEE);
            due("whole(1)", x.whole(1), 1);
            due("open()", x.open(), 1);
            due("how many", x.markOf(1, NONE), count);
            due("whole(1) after OPENING", x.whole(1), 1);
        }
        says("its NUMBER (4), the row where it begins (2), the DIGEST that stands in it (8)");
        MarkLog x = new MarkLog(512);
        setRows(x, 400, partRows(1, BILLION, -1, 9));
        setRows(x, 200, markRows(BILLION - 1, new long[] {5, 5, 5}));
        x.open();
        x.mark(1);
        due("keep(1000000000)", x.keep(BILLION), 1);
        dueRows(x, 2, markRows(BILLION, new long[] {BILLION, 400, number(x, 400, 16, 8)}));
        says("the DIGEST that stands in it (as it stands there now)");
        MarkLog y = new MarkLog(9);
        y.part(0, 0);
        y.mark(1);
        y.poke(2, 16, 255);
        y.poke(2, 23, 1);
        y.keep(1);
        due("the DIGEST", number(y, 4, 7, 8), 0xFF00000000000001L);
        due("whole(1)", y.whole(1), 0);
        y.poke(2, 16, 255);
        y.poke(2, 23, 1);
        due("whole(1): its ENTRY tells another one", y.whole(1), 0);
    }

    private static void keepFull() {
        says("FULL");
        for (int count = 1; count <= 12; count++) {
            int needs = 1 + (count + 1) / 2;
            for (int left = needs - 1; left <= needs; left++) {
                MarkLog x = new MarkLog(2 + count + left);
                for (int k = 0; k < count; k++) x.part(0, k);
                x.mark(count);
                int before = x.told(2);
                due("keep(1) of " + count + " with " + left + " rows", x.keep(1), left == needs ? 1 : FULL);
                due("MARKS not kept", x.told(8), left == needs ? 0 : 1);
                due("marks(-1)", x.marks(NONE), left == needs ? 1 : 0);
                due("bytes written", x.told(2) - before, left == needs ? 32 * needs : 0);
                due("FREE", x.told(3), left == needs ? 0 : left);
                due("whole(1)", x.whole(1), 1);
            }
        }
        MarkLog x = new MarkLog(7);
        for (int k = 0; k < 4; k++) x.part(0, k);
        x.mark(1);
        due("keep(1) with one row", x.keep(1), FULL);
        setRow(x, 3, new int[32]);
        x.open();
        x.mark(1);
        due("FREE", x.told(3), 2);
        due("keep(1) with two rows that are not one behind the other", x.keep(1), FULL);
    }

    // ---- promise 7

    private static void give() {
        says("A MARK that is not kept is given up: 1. NONE.");
        MarkLog x = new MarkLog(12);
        for (int mark : NO_NUMBERS) due("give(" + mark + ")", x.give(mark), NONE);
        x.part(0, 0);
        for (int k = 1; k <= 6; k++) x.mark(1);
        x.keep(4);
        due("give(4): kept", x.give(4), NONE);
        due("whole(4)", x.whole(4), 1);
        due("give(7)", x.give(7), NONE);
        for (int mark : NO_NUMBERS) due("give(" + mark + ")", x.give(mark), NONE);
        int before = x.told(2);
        int left = 5;
        for (int mark : new int[] {1, 6, 3, 2, 5}) {
            due("give(" + mark + ")", x.give(mark), 1);
            due("give(" + mark + ") again", x.give(mark), NONE);
            due("MARKS not kept", x.told(8), --left);
            due("whole", x.whole(mark), NONE);
            due("markOf", x.markOf(mark, NONE), NONE);
            due("named(1)", x.named(1), left + 1);
        }
        due("bytes written", x.told(2), before);
        due("greatest MARK", x.told(6), 6);
        due("PARTS", x.told(4), 1);
        due("mark(1)", x.mark(1), 7);
        x.open();
        due("give(7): no more", x.give(7), NONE);
    }

    // ---- promise 8

    private static void ownerNumbers() {
        says("BAD (GROUPS 0 .. 7)");
        MarkLog x = new MarkLog(4);
        for (int group : new int[] {-1, 8, 9, Integer.MIN_VALUE, Integer.MAX_VALUE}) due("owner(" + group + ")", x.owner(group), BAD);
        due("SERIAL", x.told(7), 0);
        due("bytes written", x.told(2), 0);
        for (int group = 0; group < 8; group++) due("owner(" + group + ")", x.owner(group), 1);
        for (int group = 0; group < 8; group++) due("told(" + (9 + group) + ")", x.told(9 + group), 1);
        due("SERIAL", x.told(7), 8);

        says("FULL: it is 65535");
        for (int group = 0; group < 8; group++) {
            int[] owners = new int[8];
            owners[group] = 65533;
            owners[(group + 1) % 8] = 65535;
            MarkLog y = new MarkLog(4);
            setRow(y, 0, head(10, owners));
            y.open();
            due("owner(" + group + ")", y.owner(group), 65534);
            due("owner(" + group + ")", y.owner(group), 65535);
            due("owner(" + group + ")", y.owner(group), FULL);
            due("owner of the next", y.owner((group + 1) % 8), FULL);
            due("SERIAL", y.told(7), 12);
            due("bytes written", y.told(2), 64);
            owners[group] = 65535;
            dueRow(y, 0, head(12, owners));
            due("owner of another", y.owner((group + 2) % 8), 1);
            y.open();
            due("told", y.told(9 + group), 65535);
        }

        says("or SERIAL 1000000000");
        for (int below = 2; below >= 0; below--) {
            MarkLog y = new MarkLog(4);
            setRow(y, 0, head(BILLION - below, 5));
            y.open();
            for (int k = 1; k <= below; k++) due("owner(0)", y.owner(0), 5 + k);
            for (int group = 0; group < 8; group++) due("owner(" + group + ") behind the last SERIAL", y.owner(group), FULL);
            due("SERIAL", y.told(7), BILLION);
            due("told(9)", y.told(9), 5 + below);
            due("bytes written", y.told(2), 32 * below);
            dueRow(y, 0, head(BILLION, 5 + below));
        }
    }

    private static void ownerHeads() {
        says("a HEAD is written (to a row of its own, so that there is always room)");
        MarkLog x = new MarkLog(4);
        partOfLength(x, 31);
        due("FREE", x.told(3), 0);
        due("owner(3)", x.owner(3), 1);
        due("owner(3)", x.owner(3), 2);
        due("FREE", x.told(3), 0);
        says("The number of a GROUP's owner becomes 1 more .. : that number");
        MarkLog y = new MarkLog(4);
        setRow(y, 1, head(7, 0, 255, 0, 0, 0, 0, 0, 256));
        y.open();
        due("owner(1)", y.owner(1), 256);
        due("owner(7)", y.owner(7), 257);
        dueRow(y, 0, head(8, 0, 256, 0, 0, 0, 0, 0, 256));
        dueRow(y, 1, head(9, 0, 256, 0, 0, 0, 0, 0, 257));
        says("SERIAL 1 more than that which counts (as the log knows it)");
        y.poke(0, 9, 1);
        y.poke(1, 9, 1);
        due("owner(0) with HEADS altered by somebody", y.owner(0), 1);
        due("SERIAL", y.told(7), 10);
        dueRow(y, 0, head(10, 1, 256, 0, 0, 0, 0, 0, 257));
    }

    // ---- promise 9

    private static MarkLog fourMarks() {
        MarkLog x = new MarkLog(40);
        for (int k = 1; k <= 4; k++) {
            x.part(0, k);
            x.mark(1);
        }
        for (int mark : new int[] {3, 1, 4, 2}) x.keep(mark);
        return x;
    }

    private static void dropCounts() {
        says("Of kept MARKS just the latest count stay (BAD: below 0)");
        for (int count : new int[] {-1, -2, Integer.MIN_VALUE}) {
            MarkLog x = fourMarks();
            int before = x.told(2);
            due("drop(" + count + ")", x.drop(count), BAD);
            due("marks(-1)", x.marks(NONE), 4);
            due("bytes written", x.told(2), before);
        }
        for (int count : new int[] {0, 1, 2, 3, 4, 5, 100, Integer.MAX_VALUE}) {
            MarkLog x = fourMarks();
            int stay = Math.min(4, count);
            int before = x.told(2);
            due("drop(" + count + ")", x.drop(count), 4 - stay);
            due("marks(-1)", x.marks(NONE), stay);
            for (int k = 0; k < stay; k++) due("marks(" + k + ")", x.marks(k), 5 - stay + k);
            for (int part = 1; part <= 4; part++) due("PART " + part, x.partOf(part, 1), part > 4 - stay ? part : NONE);
            due("bytes written", x.told(2) - before, 32 * 3 * (4 - stay));
            due("FREE", x.told(3), 38 - 3 * stay);
            due("open()", x.open(), stay);
            due("usable()", x.usable(), stay == 0 ? NONE : 4);
        }
        MarkLog empty = new MarkLog(8);
        due("drop(0) of nothing", empty.drop(0), 0);
        due("drop(MAX) of nothing", empty.drop(Integer.MAX_VALUE), 0);
        due("drop(-1) of nothing", empty.drop(-1), BAD);
    }

    private static void dropLimit() {
        says("whose NUMBER is not above the greatest that a kept one of before this call named");
        MarkLog x = new MarkLog(20);
        for (int k = 1; k <= 3; k++) x.part(0, k);
        x.mark(1);
        x.part(0, 4);
        x.keep(1);
        due("drop(0)", x.drop(0), 3);
        due("PART 3, the greatest named", x.partOf(3, 0), NONE);
        due("PART 4, just above", x.partOf(4, 1), 4);
        due("drop(0) once more: no kept one of before this call", x.drop(0), 0);
        due("PART 4", x.partOf(4, 1), 4);

        says("(the greatest named, also by one that stays, and also if it is not known)");
        MarkLog y = new MarkLog(20);
        int[] numbers = {8, 9, 10, 11};
        for (int k = 0; k < 4; k++) setRow(y, 2 + k, partRow(0, 0, numbers[k], 0, 0));
        setRows(y, 10, markRows(1, new long[] {8, 2, 0}, new long[] {10, 4, 0}));
        setRows(y, 12, markRows(2, new long[] {8, 2, 0}));
        y.open();
        due("drop(1): the greatest was named by one that goes", y.drop(1), 2);
        due("PART 8 is named still", y.partOf(8, 0), 0);
        due("PART 11 is above", y.partOf(11, 0), 0);
        setRows(y, 14, markRows(3, new long[] {11, 9, 9}, new long[] {12, 9, 9}));
        y.open();
        due("drop(2): PART 11 is named", y.drop(2), 0);
        due("drop(1)", y.drop(1), 1);
        due("PART 8", y.partOf(8, 0), NONE);
        due("PART 11", y.partOf(11, 0), 0);
        setRow(y, 2, partRow(0, 0, 12, 0, 0));
        setRow(y, 3, partRow(0, 0, 13, 0, 0));
        setRows(y, 14, markRows(3, new long[] {12, 9, 9}));
        y.open();
        due("drop(0): PARTS 11 and 12", y.drop(0), 2);
        due("PART 13", y.partOf(13, 0), 0);
        MarkLog z = new MarkLog(20);
        z.part(0, 1);
        setRows(z, 10, markRows(1, new long[] {1, 9, 9}));
        z.open();
        due("drop(0): named by NUMBER, wherever it begins", z.drop(0), 1);
    }

    private static void dropNamed() {
        says("PARTS that no MARK names any more");
        MarkLog x = new MarkLog(20);
        for (int k = 1; k <= 3; k++) x.part(0, k);
        x.mark(3);
        x.mark(2);
        x.mark(1);
        x.keep(1);
        x.keep(3);
        due("drop(2): all are named", x.drop(2), 0);
        due("drop(1): PART 2 by one that is not kept, PART 3 by one that is", x.drop(1), 1);
        due("PART 1", x.partOf(1, 0), NONE);
        due("PART 2", x.partOf(2, 1), 2);
        due("whole(2)", x.whole(2), 1);
        due("drop(0): both by the one that is not kept", x.drop(0), 0);
        x.give(2);
        x.mark(1);
        x.keep(4);
        due("drop(1): PART 2 is named by none, though no MARK goes", x.drop(1), 1);
        due("drop(1) again", x.drop(1), 0);
        due("PARTS", x.told(4), 1);

        says("Rows that are taken back become all 0 (those that belong to what is known, whatever stands there now)");
        MarkLog z = new MarkLog(14);
        partOfLength(z, 40);
        z.mark(1);
        z.keep(1);
        spoil(z, 7, 14);
        setRow(z, 2, partRow(0, 155, 1, 0, 0));
        setRow(z, 5, altered(markRows(1, new long[] {1, 2, 0})[0], 1, 12));
        int before = z.told(2);
        due("drop(0)", z.drop(0), 1);
        due("bytes: 3 rows of the PART, 2 of the MARK", z.told(2) - before, 32 * 5);
        for (int row = 2; row < 14; row++) due("row " + row, isClear(z, row), row < 7);

        says("Rows that are taken back become all 0");
        MarkLog y = new MarkLog(12);
        partOfLength(y, 40);
        y.mark(1);
        y.keep(1);
        for (int row = 2; row <= 6; row++) y.poke(row, 13, 255);
        due("drop(0), also of what is not WHOLE", y.drop(0), 1);
        for (int row = 2; row < 12; row++) due("row " + row, isClear(y, row), true);
        due("FREE", y.told(3), 10);
        due("greatest PART", y.told(5), 1);
        due("greatest MARK", y.told(6), 1);
    }

    // ---- promise 10

    private static void cut() {
        says("False: n is not -1 .. 20000");
        MarkLog x = new MarkLog(9);
        int[][] all = {{-2, 0}, {-1, 1}, {0, 1}, {1, 1}, {19999, 1}, {20000, 1}, {20001, 0}, {Integer.MIN_VALUE, 0}, {Integer.MAX_VALUE, 0}};
        for (int[] n : all) due("cut(" + n[0] + ")", x.cut(n[0]), n[1] == 1);
        says("(what answers so changes nothing)");
        for (int n : new int[] {-2, 20001}) {
            MarkLog y = new MarkLog(9);
            y.cut(32);
            due("cut(" + n + ")", y.cut(n), false);
            due("owner(0)", y.owner(0), 1);
            due("owner(0)", y.owner(0), LOST);
            MarkLog z = new MarkLog(9);
            due("cut(" + n + ")", z.cut(n), false);
            for (int k = 1; k <= 9; k++) due("owner(0)", z.owner(0), k);
        }
        says("Power goes behind so many bytes more (NONE: it stays)");
        MarkLog y = new MarkLog(9);
        y.cut(0);
        due("cut(-1)", y.cut(NONE), true);
        for (int k = 1; k <= 9; k++) due("owner(0)", y.owner(0), k);
        y.cut(70);
        y.cut(40);
        due("the latest counts", y.owner(0), 10);
        due("owner(0)", y.owner(0), LOST);
        due("bytes written", y.told(2), 32 * 9 + 40);
        y.open();
        for (int k = 11; k <= 15; k++) due("power is there again: owner(0)", y.owner(0), k);

        says("behind so many bytes more (of several calls)");
        MarkLog z = new MarkLog(9);
        z.cut(100);
        for (int k = 1; k <= 3; k++) due("owner(0)", z.owner(0), k);
        due("part", z.part(0, 0), LOST);
        due("bytes written", z.told(2), 100);
        MarkLog w = new MarkLog(9);
        w.cut(96);
        for (int k = 1; k <= 3; k++) due("owner(0)", w.owner(0), k);
        due("told(0): all bytes are written", w.told(0), 1);
        due("owner(0)", w.owner(0), LOST);
        due("bytes written", w.told(2), 96);
    }

    private static void cutFarthest() {
        says("n .. 20000");
        MarkLog x = new MarkLog(512);
        x.cut(20000);
        // 314 rows a turn: 155 PARTS, a MARK of 2 rows, and all of them taken back
        for (int turn = 0; turn < 2; turn++) {
            int parts = turn == 0 ? 155 : 153;
            for (int k = 0; k < parts; k++) x.part(0, k);
            x.mark(1);
            x.keep(turn + 1);
            if (turn == 0) due("drop(0)", x.drop(0), 155);
        }
        due("bytes written", x.told(2), 32 * (314 + 155));
        due("drop(0)", x.drop(0), 153);
        due("bytes written", x.told(2), 32 * 624);
        due("owner(0)", x.owner(0), 1);
        due("bytes written", x.told(2), 20000);
        due("told(0)", x.told(0), 1);
        due("owner(0)", x.owner(0), LOST);
        due("bytes written", x.told(2), 20000);

        says("(Also CLOSED.)");
        MarkLog y = new MarkLog(9);
        y.close();
        due("cut(5)", y.cut(5), true);
        due("cut(-2)", y.cut(-2), false);
        due("cut(20001)", y.cut(20001), false);
        y.open();
        due("owner(0)", y.owner(0), LOST);
        due("bytes written", y.told(2), 5);
        due("cut(3) of what power closed", y.cut(3), true);
        y.open();
        due("owner(0)", y.owner(0), LOST);
        due("bytes written", y.told(2), 8);
        y.cut(0);
        y.cut(NONE);
        y.open();
        due("owner(0)", y.owner(0), 1);
    }

    // ---- promises 11 and 12

    private static void close() {
        says("CLOSED from now on: whether it was OPEN");
        MarkLog x = new MarkLog(9);
        x.part(0, 0);
        x.mark(1);
        x.feed(9, 2);
        int[] before = medium(x);
        due("close()", x.close(), true);
        due("told(0)", x.told(0), 0);
        due("close()", x.close(), false);
        due("close()", x.close(), false);
        dueSame("the medium", java.util.Arrays.toString(medium(x)), java.util.Arrays.toString(before));
        due("bytes written", x.told(2), 32);
        x.open();
        due("close()", x.close(), true);
        due("the TAPE stays", x.wipe(), 2);
        x.open();
        due("MARKS not kept are no more", x.told(8), 0);
        x.cut(0);
        x.owner(0);
        due("close() of what power closed", x.close(), false);
    }

    private static void open() {
        says("OPENING (also if it is OPEN): how many kept MARKS are known then");
        MarkLog x = new MarkLog(20);
        due("open() of nothing", x.open(), 0);
        x.part(0, 0);
        for (int k = 1; k <= 3; k++) {
            x.mark(1);
            x.mark(1);
            x.keep(2 * k);
            x.feed(k, 1);
            int before = x.told(2);
            due("open()", x.open(), k);
            due("MARKS not kept", x.told(8), 0);
            due("open() writes nothing", x.told(2), before);
            x.close();
            due("open() of a CLOSED one", x.open(), k);
            due("told(0)", x.told(0), 1);
        }
        due("the TAPE stays", x.wipe(), 3);
        x.poke(3, 5, 1);
        due("known still", x.marks(NONE), 3);
        due("open()", x.open(), 2);
        x.poke(3, 5, 1);
        due("open()", x.open(), 3);
        MarkLog most = new MarkLog(512);
        for (int k = 0; k < 255; k++) setRows(most, 2 + 2 * k, markRows(500 - k, new long[] {1, 2, 0}));
        due("open() of 255 MARKS", most.open(), 255);
        due("FREE", most.told(3), 0);
        due("marks(0)", most.marks(0), 246);
        due("marks(254)", most.marks(254), 500);
        due("marks(255)", most.marks(255), NONE);
        due("named(1)", most.named(1), 255);
    }

    // ---- promises 13 to 16

    private static void usable() {
        says("The greatest NUMBER of a kept MARK that is WHOLE; NONE");
        MarkLog x = fourMarks();
        due("usable()", x.usable(), 4);
        x.mark(1);
        due("usable(): 5 is not kept", x.usable(), 4);
        for (int part = 4; part >= 1; part--) {
            x.poke((int) x.partOf(part, 3), 9, 1);
            due("usable() without PART " + part, x.usable(), part == 1 ? NONE : part - 1);
        }
        x.poke((int) x.partOf(2, 3), 9, 1);
        due("usable()", x.usable(), 2);
        due("usable() of nothing", new MarkLog(4).usable(), NONE);
        MarkLog y = new MarkLog(4);
        setRows(y, 2, markRows(1, new long[] {1, 2, 0}));
        y.open();
        due("usable(): kept, but not WHOLE", y.usable(), NONE);
        MarkLog z = new MarkLog(9);
        setRow(z, 2, partRow(0, 0, 1, 0, 0));
        setRows(z, 4, markRows(BILLION, new long[] {1, 2, 0}));
        z.open();
        due("usable(): the greatest NUMBER there is", z.usable(), BILLION);
        z.close();
        due("usable()", z.usable(), CLOSED);
    }

    private static void whole() {
        says("Whether a MARK is WHOLE (1, 0). NONE; CLOSED.");
        MarkLog x = new MarkLog(12);
        for (int mark : NO_NUMBERS) due("whole(" + mark + ")", x.whole(mark), NONE);
        x.part(0, 0);
        x.mark(1);
        x.mark(1);
        x.keep(1);
        due("whole(1): kept", x.whole(1), 1);
        due("whole(2): not kept", x.whole(2), 1);
        due("whole(3)", x.whole(3), NONE);
        x.poke(2, 31, 1);
        due("whole(1)", x.whole(1), 0);
        due("whole(2)", x.whole(2), 0);
        x.poke(2, 31, 1);
        x.give(2);
        due("whole(2): given up", x.whole(2), NONE);
        x.drop(0);
        due("whole(1): taken back", x.whole(1), NONE);
        x.close();
        due("whole(1)", x.whole(1), CLOSED);
        due("whole(-1)", x.whole(-1), CLOSED);
    }

    private static void marks() {
        says("The k-th kept MARK's NUMBER, by NUMBERS from the least on (k from 0); with k = NONE how many there are. NONE");
        MarkLog x = new MarkLog(20);
        for (int n = 0; n <= 3; n++) {
            due("marks(-1)", x.marks(NONE), n);
            for (int k = 0; k < n; k++) due("marks(" + k + ")", x.marks(k), 8 - n + k);
            due("marks(" + n + ")", x.marks(n), NONE);
            for (int k : new int[] {-2, -3, n + 1, Integer.MIN_VALUE, Integer.MAX_VALUE}) due("marks(" + k + ")", x.marks(k), NONE);
            setRows(x, 4 + 3 * n, markRows(7 - n, new long[] {1, 2, 0}));
            x.open();
        }
        x.part(0, 0);
        x.mark(1);
        due("marks(-1): one that is not kept does not count", x.marks(NONE), 4);
        due("marks(4)", x.marks(4), NONE);
        x.close();
        for (int k : new int[] {-2, -1, 0, 4}) due("marks(" + k + ")", x.marks(k), CLOSED);
    }

    private static void markOf() {
        says("the NUMBER of its PART k (from 0, by NUMBERS), or with k = NONE how many it has. NONE");
        for (int count : new int[] {1, 2, 3, 11, 12}) {
            MarkLog x = new MarkLog(40);
            for (int k = 1; k <= 13; k++) x.part(0, k);
            x.mark(count);
            for (int turn = 0; turn < 3; turn++) {
                due("markOf(1, -1)", x.markOf(1, NONE), count);
                for (int k = 0; k < count; k++) due("markOf(1, " + k + ")", x.markOf(1, k), 14 - count + k);
                for (int k : new int[] {count, count + 1, -2, Integer.MIN_VALUE, Integer.MAX_VALUE}) due("markOf(1, " + k + ")", x.markOf(1, k), NONE);
                for (int mark : NO_NUMBERS) due("markOf(" + mark + ", 0)", x.markOf(mark, 0), NONE);
                due("markOf(2, -1)", x.markOf(2, NONE), NONE);
                due("markOf(2, 0)", x.markOf(2, 0), NONE);
                if (turn == 0) x.keep(1);
                if (turn == 1) x.open();
            }
            x.close();
            due("markOf(1, -1)", x.markOf(1, NONE), CLOSED);
            due("markOf(2, 99)", x.markOf(2, 99), CLOSED);
        }
        MarkLog y = new MarkLog(9);
        setRows(y, 2, markRows(7, new long[] {1, 9, 9}, new long[] {BILLION, 9, 9}));
        y.open();
        due("markOf(7, 1): also one that is not known", y.markOf(7, 1), BILLION);
        for (int i = 0; i < 32; i++) y.poke(3, i, 255);
        due("markOf(7, 0): as it was found", y.markOf(7, 0), 1);
    }

    // ---- promises 17 to 19

    private static void partOf() {
        says("what = 0 .. 5; BAD (what); NONE");
        MarkLog x = new MarkLog(12);
        for (int what : new int[] {-1, 6, 7, Integer.MIN_VALUE, Integer.MAX_VALUE}) due("partOf(1, " + what + ")", x.partOf(1, what), BAD);
        for (int what = 0; what <= 5; what++) for (int part : NO_NUMBERS) due("partOf(" + part + ", " + what + ")", x.partOf(part, what), NONE);
        feedRising(x, 1, 155);
        x.part(7, Long.MIN_VALUE);
        x.part(0, -1);
        long[][] want = {{7, Long.MIN_VALUE, 155, 2, 1, 0}, {0, -1, 0, 8, 1, 0}};
        for (int part = 1; part <= 2; part++) {
            for (int what = 0; what <= 5; what++) due("partOf(" + part + ", " + what + ")", x.partOf(part, what), want[part - 1][what]);
            for (int what : new int[] {-1, 6}) due("partOf(" + part + ", " + what + ")", x.partOf(part, what), BAD);
        }
        for (int what = 0; what <= 5; what++) {
            due("partOf(3, " + what + ")", x.partOf(3, what), NONE);
            for (int part : NO_NUMBERS) due("partOf(" + part + ", " + what + ")", x.partOf(part, what), NONE);
        }

        says("as it was known");
        setRow(x, 8, partRow(5, 31, 9, 77, 1));
        long[] known = {0, -1, 0, 8, 0, 0};
        for (int what = 0; what <= 5; what++) due("partOf(2, " + what + ")", x.partOf(2, what), known[what]);
        due("partOf(9, 0)", x.partOf(9, 0), NONE);
        x.open();
        long[] found = {5, 77, 31, 8, 0, 0};
        for (int what = 0; what <= 5; what++) due("partOf(9, " + what + ")", x.partOf(9, what), found[what]);
        due("partOf(2, 0)", x.partOf(2, 0), NONE);

        says("4 whether it is WHOLE now");
        x.poke(9, 0, 1);
        due("partOf(9, 4)", x.partOf(9, 4), 0);
        due("partOf(1, 4)", x.partOf(1, 4), 1);
        x.poke(3, 0, 1);
        due("partOf(1, 4)", x.partOf(1, 4), 0);
        x.close();
        due("partOf(1, 0)", x.partOf(1, 0), CLOSED);
    }

    private static void partNamed() {
        says("5 by how many MARKS it is named (by NUMBER, kept and not)");
        MarkLog x = new MarkLog(30);
        x.part(0, 0);
        x.part(0, 0);
        due("partOf(2, 5)", x.partOf(2, 5), 0);
        for (int k = 1; k <= 6; k++) {
            x.mark(k > 4 ? 2 : 1);
            due("partOf(2, 5)", x.partOf(2, 5), k);
            due("partOf(1, 5)", x.partOf(1, 5), k > 4 ? k - 4 : 0);
        }
        x.keep(2);
        due("partOf(2, 5): kept and not", x.partOf(2, 5), 6);
        x.give(3);
        due("partOf(2, 5)", x.partOf(2, 5), 5);
        x.open();
        due("partOf(2, 5)", x.partOf(2, 5), 1);
        setRows(x, 20, markRows(9, new long[] {1, 25, 1}, new long[] {2, 25, 1}));
        x.open();
        due("partOf(1, 5): by NUMBER, wherever it begins", x.partOf(1, 5), 1);
        due("partOf(2, 5)", x.partOf(2, 5), 2);

        says("How many MARKS, kept and not, name a PART of a NUMBER, whether it is known or not");
        MarkLog y = new MarkLog(30);
        for (int part : NO_NUMBERS) due("named(" + part + ")", y.named(part), 0);
        setRows(y, 20, markRows(9, new long[] {1, 2, 0}, new long[] {3, 2, 0}, new long[] {BILLION - 1, 2, 0}));
        y.open();
        y.part(0, 0);
        y.mark(1);
        int[][] named = {{0, 0}, {1, 1}, {2, 0}, {3, 1}, {4, 0}, {BILLION - 2, 0}, {BILLION - 1, 1}, {BILLION, 1}, {BILLION + 1, 0}};
        for (int[] n : named) due("named(" + n[0] + ")", y.named(n[0]), n[1]);
        for (int part : NO_NUMBERS) due("named(" + part + ")", y.named(part), 0);
        y.close();
        due("named(1)", y.named(1), CLOSED);
        due("named(-1)", y.named(-1), CLOSED);
    }

    private static void partByte() {
        says("Byte i of a PART, as it stands there now. NONE (part, byte)");
        for (int length : new int[] {0, 1, 30, 31, 32, 61, 62, 63, 93, 94, 124, 125, 154, 155}) {
            MarkLog x = new MarkLog(12);
            x.part(0, 0);
            feedRising(x, 101, length);
            x.part(0, 0);
            for (int i = 0; i < length; i++) due("partByte(2, " + i + ") of " + length, x.partByte(2, i), 101 + i & 255);
            for (int i : new int[] {-1, length, length + 1, Integer.MIN_VALUE, Integer.MAX_VALUE}) due("partByte(2, " + i + ") of " + length, x.partByte(2, i), NONE);
            due("partByte(1, 0): it has none", x.partByte(1, 0), NONE);
            due("partByte(3, 0)", x.partByte(3, 0), NONE);
            for (int part : NO_NUMBERS) due("partByte(" + part + ", 0)", x.partByte(part, 0), NONE);
            if (length == 0) continue;
            int last = length - 1;
            x.poke(4 + last / 31, 1 + last % 31, 255);
            due("partByte(2, " + last + ") altered", x.partByte(2, last), (101 + last & 255) ^ 255);
            x.poke(3, 3, 255);
            due("partByte(2, " + length + "): the length as it was known", x.partByte(2, length), NONE);
            due("partByte(2, " + last + ")", x.partByte(2, last), (101 + last & 255) ^ 255);
            x.close();
            due("partByte(2, 0)", x.partByte(2, 0), CLOSED);
        }
    }

    // ---- promise 20

    private static void badAtHeads() {
        says("0 or 1, if it is not all 0, and not a GOOD HEAD");
        for (int row = 0; row < 2; row++) {
            for (int i = 0; i < 32; i++) {
                MarkLog x = new MarkLog(6);
                x.poke(row, i, 1);
                due("badAt() with byte " + i + " of row " + row, x.badAt(), row);
                x.poke(row, i, 1);
                due("badAt() with row " + row + " all 0", x.badAt(), NONE);
            }
            MarkLog y = new MarkLog(6);
            setRow(y, row, head(5, 1));
            due("badAt() of a GOOD one, though it was not there at OPENING", y.badAt(), NONE);
            setRow(y, row, head(0, 1));
            due("badAt() of SERIAL 0", y.badAt(), row);
            setRow(y, row, head(BILLION, 1));
            due("badAt() of SERIAL 1000000000", y.badAt(), NONE);
            setRow(y, row, head(BILLION + 1L, 1));
            due("badAt() of SERIAL 1000000001", y.badAt(), row);
        }
        MarkLog z = new MarkLog(6);
        z.poke(0, 0, 1);
        z.poke(1, 0, 1);
        due("badAt(): the least", z.badAt(), 0);
        z.poke(0, 0, 1);
        due("badAt()", z.badAt(), 1);
    }

    private static void badAtRows() {
        says("the first row of a PART that is known and is not WHOLE; that of a kept MARK whose rows are not as when it was found");
        MarkLog x = new MarkLog(14);
        x.part(0, 0);
        x.mark(1);
        x.keep(1);
        partOfLength(x, 32);
        x.mark(2);
        x.keep(2);
        int[] first = {NONE, NONE, 2, 3, 3, 5, 5, 5, 8, 8, NONE, NONE, NONE, NONE};
        for (int row = 2; row < 14; row++) {
            x.poke(row, 17, 1);
            due("badAt() with row " + row, x.badAt(), first[row]);
            x.poke(row, 17, 1);
        }
        says("The least row that is not as it should be");
        for (int row = 9; row >= 2; row--) {
            x.poke(row, 17, 1);
            due("badAt() with all from row " + row, x.badAt(), first[row]);
        }
        x.poke(1, 17, 1);
        due("badAt() with row 1", x.badAt(), 1);
        x.open();
        due("badAt(): what is not known is not asked for", x.badAt(), 1);
        x.poke(1, 17, 1);
        due("badAt()", x.badAt(), NONE);
        MarkLog y = new MarkLog(9);
        setRow(y, 7, partRow(0, 31, 1, 0, 1));
        setRow(y, 2, partRow(0, 31, 2, 0, 1));
        y.open();
        due("badAt(): the least row, not the least NUMBER", y.badAt(), 2);
        setRow(y, 2, partRow(0, 31, 2, 0, 0));
        due("badAt(): rows of 0s have the DIGEST 0", y.badAt(), 7);
        setRow(y, 7, partRow(0, 31, 1, 0, 0));
        due("badAt()", y.badAt(), NONE);
        y.poke(8, 31, 1);
        due("badAt(): by the last row of all", y.badAt(), 7);
        y.close();
        due("badAt()", y.badAt(), CLOSED);
    }

    // ---- promises 21 and 22

    private static void pokes() {
        says("Byte i of a row is altered by a mask (exclusive or, 1 .. 255) .. BAD");
        for (int rows : new int[] {4, 512}) {
            MarkLog x = new MarkLog(rows);
            int[][] bad = {{-1, 0, 1}, {rows, 0, 1}, {rows + 1, 0, 1}, {0, -1, 1}, {0, 32, 1}, {rows - 1, 32, 1}, {0, 0, 0}, {0, 0, 256}, {0, 0, 257},
                {0, 0, -1}, {0, 0, -255}, {Integer.MIN_VALUE, 0, 1}, {Integer.MAX_VALUE, 0, 1}, {1, -32, 1}, {0, Integer.MIN_VALUE, 1},
                {0, Integer.MAX_VALUE, 1}, {0, 0, Integer.MIN_VALUE}, {0, 0, Integer.MAX_VALUE}, {1 << 27, 0, 1}};
            for (int turn = 0; turn < 2; turn++) {
                for (int[] b : bad) due("poke(" + b[0] + ", " + b[1] + ", " + b[2] + ")", x.poke(b[0], b[1], b[2]), BAD);
                for (int row = 0; row < rows; row++) due("row " + row + " all 0", isClear(x, row), true);
                int[][] good = {{0, 0, 1}, {0, 31, 255}, {rows - 1, 0, 128}, {rows - 1, 31, 254}};
                for (int[] g : good) {
                    due("poke", x.poke(g[0], g[1], g[2]), g[2]);
                    due("byteAt", x.byteAt(g[0], g[1]), g[2]);
                    due("poke", x.poke(g[0], g[1], 85), g[2] ^ 85);
                    due("poke back", x.poke(g[0], g[1], g[2] ^ 85), 0);
                }
                says("OPEN or not");
                x.close();
            }
        }
        says("as by somebody else (no power, no bytes written)");
        MarkLog y = new MarkLog(4);
        y.cut(0);
        due("poke(2, 2, 2)", y.poke(2, 2, 2), 2);
        due("told(0)", y.told(0), 1);
        due("bytes written", y.told(2), 0);
        due("owner(0): power goes at the log's own byte", y.owner(0), LOST);
    }

    private static void byteAt() {
        says("Byte i of a row. BAD. (Also CLOSED.)");
        for (int rows : new int[] {4, 512}) {
            MarkLog x = new MarkLog(rows);
            x.poke(0, 0, 1);
            x.poke(0, 31, 2);
            x.poke(rows - 1, 0, 3);
            x.poke(rows - 1, 31, 255);
            for (int turn = 0; turn < 2; turn++) {
                due("byteAt(0, 0)", x.byteAt(0, 0), 1);
                due("byteAt(0, 31)", x.byteAt(0, 31), 2);
                due("byteAt(1, 0)", x.byteAt(1, 0), 0);
                due("byteAt(" + (rows - 1) + ", 0)", x.byteAt(rows - 1, 0), 3);
                due("byteAt(" + (rows - 1) + ", 31)", x.byteAt(rows - 1, 31), 255);
                int[][] bad = {{-1, 0}, {rows, 0}, {0, -1}, {0, 32}, {1, -1}, {rows - 1, 32}, {Integer.MIN_VALUE, 0}, {Integer.MAX_VALUE, 0},
                    {0, Integer.MIN_VALUE}, {0, Integer.MAX_VALUE}, {1 << 27, 0}, {-1, 32}};
                for (int[] b : bad) due("byteAt(" + b[0] + ", " + b[1] + ")", x.byteAt(b[0], b[1]), BAD);
                x.close();
            }
        }
    }

    // ---- promise 23

    private static void out() {
        says("Byte i of a MARK's SAVEPOINT, or with i = NONE how many it has");
        for (int count : new int[] {1, 2, 12}) {
            for (int length : new int[] {0, 1, 31, 32, 154, 155}) {
                MarkLog x = new MarkLog(90);
                int[] all = {};
                for (int k = 0; k < count; k++) {
                    feedRising(x, 1, length);
                    x.part(k % 8, -k);
                    all = joined(all, partOut(k % 8, -k, length));
                }
                x.mark(count);
                all = savepointOf(count, all);
                due("out(1, -1)", x.out(1, NONE), 10 + count * (11 + length));
                for (int i = 0; i < all.length; i++) due("out(1, " + i + ") of " + count + " of " + length, x.out(1, i), all[i]);
                says("NONE: no such byte");
                for (int i : new int[] {-2, -3, all.length, all.length + 1, Integer.MIN_VALUE, Integer.MAX_VALUE}) due("out(1, " + i + ")", x.out(1, i), NONE);
            }
        }
        says("NONE: no such MARK");
        MarkLog x = new MarkLog(12);
        x.part(0, 0);
        x.mark(1);
        x.mark(1);
        x.keep(1);
        for (int mark : NO_NUMBERS) for (int i = -2; i <= 0; i++) due("out(" + mark + ", " + i + ")", x.out(mark, i), NONE);
        due("out(3, -1)", x.out(3, NONE), NONE);
        due("out(1, -1)", x.out(1, NONE), 21);
        due("out(2, -1)", x.out(2, NONE), 21);
        says("BAD: it is not WHOLE");
        x.poke(3, 31, 1);
        due("out(1, -1)", x.out(1, NONE), BAD);
        due("out(1, 0)", x.out(1, 0), BAD);
        due("out(2, -1): its PART is WHOLE", x.out(2, NONE), 21);
        x.poke(3, 31, 1);
        x.poke(2, 8, 1);
        for (int i : new int[] {-1, 0, 20, 21, -2}) {
            due("out(1, " + i + ")", x.out(1, i), BAD);
            due("out(2, " + i + ")", x.out(2, i), BAD);
        }
        x.poke(2, 8, 1);
        due("out(1, 20)", x.out(1, 20) >= 0, true);
        due("out(1, 21)", x.out(1, 21), NONE);
        x.close();
        due("out(1, -1)", x.out(1, NONE), CLOSED);

        says("GROUP, POSITION (8) (as they were known), its bytes");
        MarkLog z = new MarkLog(12);
        feedBytes(z, 50, 60);
        z.part(2, 9);
        z.mark(1);
        setRow(z, 2, partRow(3, 2, 1, 10, number(z, 2, 16, 8)));
        due("whole(1)", z.whole(1), 1);
        int[] known = savepointOf(1, 2, 0, 0, 0, 0, 0, 0, 0, 9, 0, 2, 50, 60);
        for (int i = 0; i < known.length; i++) due("out(1, " + i + ")", z.out(1, i), known[i]);

        says("for each, by NUMBERS");
        MarkLog y = new MarkLog(12);
        setRow(y, 2, partRow(2, 0, 9, 5, 0));
        setRow(y, 3, partRow(1, 0, 4, 6, 0));
        y.open();
        y.mark(2);
        int[] want = savepointOf(2, joined(partOut(1, 6, 0), partOut(2, 5, 0)));
        for (int i = 0; i < want.length; i++) due("out(1, " + i + ")", y.out(1, i), want[i]);
    }

    // ---- promise 24

    private static void inForms() {
        says("BAD: it is none such, just as out() tells it (1 .. 12 PARTS");
        int[] one = partOut(7, -1, 0);
        for (int count : new int[] {0, 1, 2, 11, 12, 13}) {
            MarkLog x = new MarkLog(40);
            due("in() of " + count, in(x, savepointOf(count, repeated(count, one))), count >= 1 && count <= 12 ? 1 : BAD);
            due("PARTS", x.told(4), count >= 1 && count <= 12 ? count : 0);
            if (count < 13) due("in() of " + count + ", one more told", in(x, savepointOf(count + 1, repeated(count, one))), BAD);
            if (count > 0) due("in() of " + count + ", one less told", in(x, savepointOf(count - 1, repeated(count, one))), BAD);
        }
        due("in() of 255", in(new MarkLog(40), savepointOf(255, repeated(100, one))), BAD);
        says("GROUPS");
        for (int group : new int[] {0, 7, 8, 9, 128, 255}) {
            due("GROUP " + group, in(new MarkLog(40), savepointOf(1, partOut(group, 0, 3))), group < 8 ? 1 : BAD);
            due("GROUP " + group + " of the second", in(new MarkLog(40), savepointOf(2, joined(one, partOut(group, 0, 3)))), group < 8 ? 1 : BAD);
        }
        says("lengths");
        for (int length : new int[] {0, 1, 31, 32, 154, 155, 156, 157, 255, 256, 411, 1900}) {
            MarkLog x = new MarkLog(200);
            due("length " + length, in(x, savepointOf(1, partOut(0, 0, length))), length <= 155 ? 1 : BAD);
            due("PARTS", x.told(4), length <= 155 ? 1 : 0);
            due("wipe()", x.wipe(), 0);
        }
        int[] longer = partOut(0, 0, 20);
        for (int told : new int[] {12, 19, 21, 28, 29, 155, 65535, 32768}) {
            put(longer, 9, told, 2);
            due("length told " + told + " of 20", in(new MarkLog(40), savepointOf(1, longer)), BAD);
        }
        says("77");
        for (int first : new int[] {0, 76, 78, 205}) {
            int[] all = savepointOf(1, one);
            all[0] = first;
            put(all, 13, digest(all, 0, 13), 8);
            due("in() that begins with " + first, in(new MarkLog(40), all), BAD);
        }
    }

    private static void inBytes() {
        int[] all = savepointOf(2, joined(partOut(3, 258, 2), partOut(0, -1, 0)));
        says("DIGEST");
        for (int i = 0; i < 8; i++) {
            int[] other = all.clone();
            other[all.length - 8 + i] ^= 1;
            due("in() with byte " + i + " of its DIGEST altered", in(new MarkLog(40), other), BAD);
        }
        says("nothing behind");
        for (int n = 0; n <= all.length + 9; n++) {
            MarkLog x = new MarkLog(40);
            due("in() of " + n + " bytes of " + all.length, in(x, java.util.Arrays.copyOf(all, n)), n == all.length ? 1 : BAD);
            due("bytes written", x.told(2), n == all.length ? 96 : 0);
            due("wipe()", x.wipe(), 0);
        }
        says("The TAPE .. is a SAVEPOINT: its PARTS are written, and are a MARK, not kept yet: its NUMBER");
        MarkLog x = new MarkLog(40);
        x.part(1, 1);
        x.mark(1);
        due("in()", in(x, all), 2);
        dueRows(x, 3, partRows(3, 2, 258, 1, 2));
        dueRows(x, 5, partRows(0, 3, -1));
        due("MARKS not kept", x.told(8), 2);
        due("how many", x.markOf(2, NONE), 2);
        due("the first", x.markOf(2, 0), 2);
        due("the second", x.markOf(2, 1), 3);
        due("whole(2)", x.whole(2), 1);
        due("marks(-1)", x.marks(NONE), 0);
        due("keep(2)", x.keep(2), 1);
        for (int i = 0; i < all.length; i++) due("out(2, " + i + ")", x.out(2, i), all[i]);
        due("in() of an empty TAPE", x.in(), BAD);
    }

    private static void inBodies() {
        says("BODIES .. 5 and 31 bytes (0s behind the last one), whatever comes next on the TAPE");
        for (int length : new int[] {0, 1, 30, 31, 32, 61, 62, 154, 155}) {
            MarkLog x = new MarkLog(20);
            spoil(x, 2, 20);
            int rows = 1 + (length + 30) / 31;
            due("in()", in(x, savepointOf(2, joined(partOut(6, 1, length), partOut(7, -1, length)))), 1);
            int[] bytes = java.util.Arrays.copyOfRange(partOut(6, 1, length), 11, 11 + length);
            dueRows(x, 2, partRows(6, 1, 1, bytes));
            dueRows(x, 2 + rows, partRows(7, 2, -1, bytes));
            due("the row behind", x.byteAt(2 + 2 * rows, 0), 0xEE);
            due("whole(1)", x.whole(1), 1);
        }
        says("BAD: it is none such (a TAPE that ends inside of a PART)");
        int[] most = savepointOf(12, repeated(12, partOut(0, 0, 155)));
        for (int n : new int[] {1980, 1993, 1994, 1999, 2000}) {
            MarkLog x = new MarkLog(100);
            due("in() of " + n + " bytes of 2002", in(x, java.util.Arrays.copyOf(most, n)), BAD);
            due("wipe()", x.wipe(), 0);
        }
        MarkLog x = new MarkLog(100);
        int[] told = savepointOf(12, joined(repeated(11, partOut(1, 2, 155)), partOut(1, 2, 153)));
        put(told, 2 + 11 * 166 + 9, 155, 2);
        put(told, 1992, digest(told, 0, 1992), 8);
        due("in() of 2000 bytes, whose last PART tells two bytes more", in(x, told), BAD);
    }

    private static void inFull() {
        int[] one = partOut(7, -1, 0);
        says("FULL: some would have no room (nothing is written then)");
        for (int rows = 4; rows <= 16; rows++) {
            for (int count = 1; count <= 12; count++) {
                MarkLog x = new MarkLog(rows);
                boolean isRoom = count <= rows - 2;
                due("in() of " + count + " in " + rows + " rows", in(x, savepointOf(count, repeated(count, one))), isRoom ? 1 : FULL);
                due("bytes written", x.told(2), isRoom ? 32 * count : 0);
                due("MARKS not kept", x.told(8), isRoom ? 1 : 0);
                due("greatest PART", x.told(5), isRoom ? count : 0);
                due("greatest MARK", x.told(6), isRoom ? 1 : 0);
                due("wipe()", x.wipe(), 0);
            }
        }
        int[][][] orders = {{one, partOut(1, 1, 1)}, {partOut(1, 1, 1), one}, {partOut(1, 1, 1), partOut(1, 1, 1)}, {one, one, one}, {one, one, one, one}};
        int[] answers = {FULL, 1, FULL, 1, FULL};
        for (int k = 0; k < orders.length; k++) {
            // FREE: rows 2 and 3, and row 5
            MarkLog x = new MarkLog(6);
            setRow(x, 4, partRow(0, 0, 1, 0, 0));
            x.open();
            due("in() of case " + k + ", the PARTS in their order", in(x, savepointOf(orders[k].length, joined(orders[k]))), answers[k]);
            if (answers[k] == FULL) due("bytes written", x.told(2), 0);
            due("FREE", x.told(3), answers[k] == FULL ? 3 : 0);
        }
    }

    private static void inNumbers() {
        int[] one = partOut(7, -1, 0);
        says("NUMBERS would be above 1000000000");
        for (int below = 0; below <= 13; below++) {
            for (int count : new int[] {1, 2, 11, 12}) {
                MarkLog x = new MarkLog(20);
                setRow(x, 2, partRow(0, 0, BILLION - below, 0, 0));
                x.open();
                due("in() of " + count + ", " + below + " below the last", in(x, savepointOf(count, repeated(count, one))), count <= below ? 1 : FULL);
                due("greatest PART", x.told(5), count <= below ? BILLION - below + count : BILLION - below);
                due("bytes written", x.told(2), count <= below ? 32 * count : 0);
            }
        }
        for (int below = 0; below <= 2; below++) {
            MarkLog x = new MarkLog(20);
            setRows(x, 2, markRows(BILLION - below, new long[] {1, 2, 0}));
            x.open();
            for (int k = 1; k <= below; k++) due("in()", in(x, savepointOf(1, one)), BILLION - below + k);
            due("in() behind the last MARK", in(x, savepointOf(1, one)), FULL);
            due("bytes written", x.told(2), 32 * below);
            due("greatest PART", x.told(5), 1 + below);
        }
        says("or six MARKS are not kept");
        MarkLog x = new MarkLog(20);
        for (int k = 1; k <= 6; k++) due("in()", in(x, savepointOf(1, one)), k);
        due("in() with six", in(x, savepointOf(1, one)), FULL);
        due("bytes written", x.told(2), 32 * 6);
        due("wipe()", x.wipe(), 0);
        x.give(1);
        due("in() with five", in(x, savepointOf(1, one)), 7);
        x.keep(3);
        due("in() with five", in(x, savepointOf(1, one)), 8);
        due("in() with six", in(x, savepointOf(1, one)), FULL);
    }

    // ---- promise 25

    private static MarkLog twoMarks(int[] first, int[] second, int count) {
        MarkLog x = new MarkLog(200);
        due("in()", in(x, savepointOf(count, first)), 1);
        int other = 0;
        for (int at = 0; at < second.length; at += 11 + second[at + 9] * 256 + second[at + 10]) other++;
        due("in()", in(x, savepointOf(other, second)), 2);
        return x;
    }

    private static void equal() {
        says("Whether two MARKS that are WHOLE have the same PARTS, but for NUMBERS (1, 0)");
        int[] a = joined(partOut(3, 5, 32), partOut(1, -1, 0));
        int[][] others = {a, joined(partOut(3, 5, 32), partOut(2, -1, 0)), joined(partOut(2, 5, 32), partOut(1, -1, 0)),
            joined(partOut(3, 6, 32), partOut(1, -1, 0)), joined(partOut(3, 5, 32), partOut(1, -2, 0)), joined(partOut(3, 5, 32), partOut(1, Long.MAX_VALUE, 0)),
            joined(partOut(3, 5, 31), partOut(1, -1, 0)), joined(partOut(3, 5, 33), partOut(1, -1, 0)), joined(partOut(3, 5, 32), partOut(1, -1, 1)),
            partOut(3, 5, 32), partOut(1, -1, 0), joined(a, partOut(1, -1, 0)), joined(partOut(1, -1, 0), partOut(3, 5, 32))};
        for (int k = 0; k < others.length; k++) {
            MarkLog x = twoMarks(a, others[k], 2);
            due("equal(1, 2) of case " + k, x.equal(1, 2), k == 0 ? 1 : 0);
            due("equal(2, 1) of case " + k, x.equal(2, 1), k == 0 ? 1 : 0);
            due("equal(2, 2)", x.equal(2, 2), 1);
            x.keep(1);
            due("equal(1, 2), one kept", x.equal(1, 2), k == 0 ? 1 : 0);
        }
        for (int i = 11; i < 43; i++) {
            int[] b = a.clone();
            b[i] ^= 128;
            due("equal(1, 2) with byte " + (i - 11) + " another", twoMarks(a, b, 2).equal(1, 2), 0);
        }
        int[] zero = partOut(0, 0, 1);
        zero[11] = 0;
        due("a byte 0 and none", twoMarks(zero, partOut(0, 0, 0), 1).equal(1, 2), 0);
        int[] most = repeated(12, partOut(1, 1, 150));
        due("the most PARTS", twoMarks(most, most, 12).equal(1, 2), 1);

        says("NONE; BAD: one is not WHOLE");
        MarkLog x = twoMarks(a, partOut(3, 5, 3), 2);
        for (int mark : NO_NUMBERS) {
            due("equal(1, " + mark + ")", x.equal(1, mark), NONE);
            due("equal(" + mark + ", 1)", x.equal(mark, 1), NONE);
            due("equal(" + mark + ", " + mark + ")", x.equal(mark, mark), NONE);
        }
        due("equal(1, 3)", x.equal(1, 3), NONE);
        x.poke((int) x.partOf(2, 3), 9, 1);
        due("equal(1, 2): the first is not", x.equal(1, 2), BAD);
        due("equal(2, 1): the second is not", x.equal(2, 1), BAD);
        due("equal(1, 1): neither is", x.equal(1, 1), BAD);
        due("equal(2, 2)", x.equal(2, 2), 1);
        x.poke((int) x.partOf(2, 3), 9, 1);
        due("equal(1, 2)", x.equal(1, 2), 0);
        x.close();
        due("equal(1, 2)", x.equal(1, 2), CLOSED);
    }

    // ---- promise 26

    private static void told() {
        says("What = 0 .. 16. BAD.");
        MarkLog x = new MarkLog(30);
        int[] bad = {-1, -2, 17, 18, Integer.MIN_VALUE, Integer.MAX_VALUE};
        for (int what : bad) due("told(" + what + ")", x.told(what), BAD);
        partOfLength(x, 32);
        x.part(0, 0);
        for (int k = 1; k <= 3; k++) x.mark(2);
        x.keep(1);
        for (int group = 0; group < 8; group++) for (int k = 0; k <= group; k++) x.owner(group);
        int[] all = {1, 30, 32 * (3 + 1 + 2 + 36), 22, 2, 2, 3, 36, 2, 1, 2, 3, 4, 5, 6, 7, 8};
        for (int what = 0; what <= 16; what++) due("told(" + what + ")", x.told(what), all[what]);
        says("OPEN (else 0)");
        x.close();
        for (int what = 0; what <= 16; what++) due("told(" + what + ") CLOSED", x.told(what), what == 1 || what == 2 ? all[what] : 0);
        for (int what : bad) due("told(" + what + ") CLOSED", x.told(what), BAD);

        says("2 bytes written ever");
        x.open();
        due("told(2) after OPENING", x.told(2), all[2]);
        x.cut(7);
        x.part(0, 0);
        due("told(2) after power went", x.told(2), all[2] + 7);
        x.open();
        x.drop(0);
        due("told(2): rows taken back are written too", x.told(2), all[2] + 7 + 32 * 6);
        x.poke(9, 9, 9);
        due("told(2): not by somebody else", x.told(2), all[2] + 7 + 32 * 6);
    }

    public static void main(String[] args) {
        promise(1); newObject(); fewestRows(); mostRows();
        promise(2); feed(); feedFull();
        promise(3); wipe();
        promise(4); partLengths(); partArguments(); partTape(); partNumbers(); partFull();
        promise(5); markCounts(); markLatest(); markFull();
        promise(6); keepNone(); keepRows(); keepFull();
        promise(7); give();
        promise(8); ownerNumbers(); ownerHeads();
        promise(9); dropCounts(); dropLimit(); dropNamed();
        promise(10); cut(); cutFarthest();
        promise(11); close();
        promise(12); open();
        promise(13); usable();
        promise(14); whole();
        promise(15); marks();
        promise(16); markOf();
        promise(17); partOf();
        promise(19); partNamed();
        promise(18); partByte();
        promise(20); badAtHeads(); badAtRows();
        promise(21); pokes();
        promise(22); byteAt();
        promise(23); out();
        promise(24); inForms(); inBytes(); inBodies(); inFull(); inNumbers();
        promise(25); equal();
        promise(26); told();
        end("all boundaries hold");
    }
}

/** The sentences of the section "Terms", one by one: what is GOOD, a PART, a MARK, WHOLE, FREE, and where it ends. */
public final class TermsTest extends Checks {
    private static final long[] ONE = {1, 2, 0};

    private static MarkLog opened(int rows, int at, int[]... content) {
        MarkLog x = new MarkLog(rows);
        setRows(x, at, content);
        x.open();
        return x;
    }

    private static long[][] rising(int count) {
        long[][] parts = new long[count][];
        for (int k = 0; k < count; k++) parts[k] = new long[] {k + 1, 9, 9};
        return parts;
    }

    // ---- DIGEST and SUM

    private static void digests() {
        says("THE DIGEST of bytes: s is 0");
        MarkLog x = new MarkLog(8);
        x.part(0, 0);
        due("the DIGEST of no BODIES", number(x, 2, 16, 8), 0);

        says("for each byte b (0 .. 255) s becomes (s xor b, turned left by 53 bits) times 0xC2B2AE3D27D4EB4F, in 64 bits");
        x.feed(-1, 1);
        x.part(0, 0);
        long s = 0;
        int[] body = new int[32];
        body[0] = 5;
        body[1] = 255;
        for (int b : body) {
            long mixed = s ^ b;
            s = (mixed << 53 | mixed >>> 11) * 0xC2B2AE3D27D4EB4FL;
        }
        due("the DIGEST of 5 255 0 ..", number(x, 3, 16, 8), s);

        says("A row's SUM is its bytes 24 .. 31, the DIGEST of those before");
        int[] first = new int[32];
        for (int i = 0; i < 24; i++) first[i] = x.byteAt(3, i);
        due("SUM", number(x, 3, 24, 8), digest(first, 0, 24));
        says("Numbers in it have their highest byte first");
        due("the SUM's highest byte", x.byteAt(3, 24), digest(first, 0, 24) >>> 56);
        due("the SUM's lowest byte", x.byteAt(3, 31), digest(first, 0, 24) & 255);
    }

    // ---- HEADS

    private static void goodHeads() {
        says("GOOD is one .. with SERIAL 1 .. 1000000000");
        long[][] serials = {{0, 0}, {1, 1}, {2, 1}, {BILLION - 1, 1}, {BILLION, 1}, {BILLION + 1L, 0}, {Integer.MAX_VALUE, 0},
            {0x80000000L, 0}, {0x80000001L, 0}, {0xFFFFFFFFL, 0}};
        for (long[] s : serials) {
            for (int row = 0; row < 2; row++) {
                MarkLog x = opened(4, row, head(s[0], 7));
                due("SERIAL " + s[0] + " in row " + row, x.told(7), s[1] * s[0]);
                due("owner of SERIAL " + s[0], x.told(9), s[1] * 7);
                due("badAt() of SERIAL " + s[0], x.badAt(), s[1] == 1 ? NONE : row);
            }
        }

        says("that begins with 4");
        for (int begin : new int[] {0, 1, 2, 3, 5, 6, 132, 255}) {
            MarkLog x = opened(4, 0, altered(head(3, 7), 0, begin));
            due("SERIAL of one that begins with " + begin, x.told(7), 0);
            due("badAt() of one that begins with " + begin, x.badAt(), 0);
        }

        says("whose SUM fits");
        for (int i = 0; i < 32; i++) {
            MarkLog x = opened(4, 0, head(3, 7));
            x.poke(0, i, 1);
            x.open();
            due("SERIAL with byte " + i + " altered", x.told(7), 0);
            due("badAt() with byte " + i + " altered", x.badAt(), 0);
        }

        says("HEAD: 4; 0 0 0; (GOOD does not ask for these 0s)");
        for (int i = 1; i <= 3; i++) due("byte " + i, opened(4, 1, altered(head(3, 7), i, 255)).told(7), 3);
    }

    private static void headThatCounts() {
        says("of two the one with the greater SERIAL counts (row 0, if they are the same)");
        long[][] pairs = {{5, 4, 0}, {4, 5, 1}, {5, 5, 0}, {1, 1, 0}, {BILLION, BILLION, 0}, {BILLION - 1, BILLION, 1},
            {BILLION, BILLION - 1, 0}, {255, 256, 1}, {0, 1, 1}, {1, 0, 0}, {BILLION + 1L, 1, 1}, {1, BILLION + 1L, 0},
            {0xFFFFFFFFL, 1, 1}, {1, 0xFFFFFFFFL, 0}};
        for (long[] p : pairs) {
            MarkLog x = opened(4, 0, head(p[0], 100), head(p[1], 200));
            due("SERIAL of " + p[0] + " and " + p[1], x.told(7), p[(int) p[2]]);
            due("owner of " + p[0] + " and " + p[1], x.told(9), p[2] == 0 ? 100 : 200);
        }

        says("(0 without one: all numbers are 0 then)");
        MarkLog x = opened(4, 0, head(9, 1, 2, 3, 4, 5, 6, 7, 8));
        for (int g = 0; g < 8; g++) due("owner of GROUP " + g, x.told(9 + g), g + 1);
        x.poke(0, 31, 1);
        x.open();
        due("SERIAL", x.told(7), 0);
        for (int g = 0; g < 8; g++) due("owner of GROUP " + g, x.told(9 + g), 0);
        due("owner(4)", x.owner(4), 1);
        dueRow(x, 1, head(1, 0, 0, 0, 0, 1));

        says("the OWNERS' numbers of GROUPS 0 .. 7 (2 bytes each)");
        MarkLog y = opened(4, 0, head(9, 65535, 256, 255, 1, 0, 32768, 65534, 65535));
        int[] all = {65535, 256, 255, 1, 0, 32768, 65534, 65535};
        for (int g = 0; g < 8; g++) due("owner of GROUP " + g, y.told(9 + g), all[g]);

        says("A HEAD is written to row SERIAL % 2, SERIAL 1 more than that which counts");
        long[][] next = {{1, 1}, {2, 2}, {BILLION - 2, 3}, {BILLION - 1, 4}};
        for (long[] n : next) {
            for (int stands = 0; stands < 2; stands++) {
                MarkLog z = opened(4, stands, head(n[0], 0, 3));
                due("owner(1)", z.owner(1), 4);
                dueRow(z, (int) ((n[0] + 1) % 2), head(n[0] + 1, 0, 4));
                if (stands != (n[0] + 1) % 2) dueRow(z, stands, head(n[0], 0, 3));
            }
        }

        says("HEAD (rows 0 and 1)");
        due("a HEAD in row 2", opened(5, 2, head(9, 1)).told(7), 0);
    }

    // ---- OPENING: PARTS

    private static void partsFound() {
        says("a row .. with GROUP 0 .. 7");
        for (int group : new int[] {0, 1, 6, 7, 8, 9, 127, 128, 255}) {
            MarkLog x = opened(4, 2, partRow(group, 0, 3, 5, 0));
            due("PARTS of GROUP " + group, x.told(4), group < 8 ? 1 : 0);
            due("GROUP", x.partOf(3, 0), group < 8 ? group : NONE);
        }

        says("length up to 155");
        for (int length : new int[] {0, 1, 31, 32, 154, 155, 156, 157, 255, 256, 300, 411, 32768, 65535}) {
            MarkLog x = opened(40, 2, partRow(0, length, 3, 5, 0));
            due("PARTS of length " + length, x.told(4), length <= 155 ? 1 : 0);
            due("length", x.partOf(3, 2), length <= 155 ? length : NONE);
        }

        says("NUMBER 1 .. 1000000000");
        long[][] numbers = {{0, 0}, {1, 1}, {2, 1}, {BILLION - 1, 1}, {BILLION, 1}, {BILLION + 1L, 0}, {Integer.MAX_VALUE, 0},
            {0x80000000L, 0}, {0x80000001L, 0}, {0xFFFFFFFFL, 0}};
        for (long[] n : numbers) {
            MarkLog x = opened(4, 2, partRow(0, 0, n[0], 5, 0));
            due("PARTS of NUMBER " + n[0], x.told(4), n[1]);
            due("greatest", x.told(5), n[1] * n[0]);
        }

        says("a row that begins with 1, whose SUM fits");
        for (int begin : new int[] {0, 3, 4, 5, 6, 129, 255}) {
            due("PARTS with " + begin, opened(4, 2, altered(partRow(2, 0, 3, 5, 0), 0, begin)).told(4), 0);
        }
        for (int i = 0; i < 32; i++) {
            MarkLog x = opened(4, 2, partRow(2, 0, 3, 5, 0));
            x.poke(2, i, 128);
            x.open();
            due("PARTS with byte " + i + " altered", x.told(4), 0);
            due("FREE with byte " + i + " altered", x.told(3), 2);
        }

        says("(whatever its BODIES are)");
        MarkLog x = opened(8, 2, partRow(0, 93, 3, 5, 77), head(1), partRow(0, 0, 4, 0, 0), new int[32]);
        due("PARTS", x.told(4), 1);
        due("WHOLE", x.partOf(3, 4), 0);
    }

    private static void partsAtTheEnd() {
        says("and all of whose rows are there");
        for (int length : new int[] {0, 1, 31, 32, 62, 63, 93, 94, 124, 125, 155}) {
            int rows = 1 + (length + 30) / 31;
            MarkLog x = opened(12, 12 - rows, partRow(0, length, 3, 5, 0));
            due("PARTS of " + length + " up to the last row", x.told(4), 1);
            due("FREE", x.told(3), 10 - rows);
            if (rows == 1) continue;
            MarkLog y = opened(12, 13 - rows, partRow(0, length, 3, 5, 0));
            due("PARTS of " + length + " one row behind the end", y.told(4), 0);
            due("greatest", y.told(5), 0);
            due("FREE", y.told(3), 10);
        }
        MarkLog last = opened(12, 11, partRow(0, 155, 3, 5, 0));
        due("PARTS of 155 in the last row", last.told(4), 0);

        says("then rows from 2 on");
        due("a PART in row 1", opened(8, 1, partRow(0, 0, 3, 5, 0)).told(4), 0);
        due("a PART in row 0", opened(8, 0, partRow(0, 0, 3, 5, 0)).told(4), 0);
        due("a PART in row 1 whose BODY is row 2", opened(8, 1, partRows(0, 3, 5, 9)).told(4), 0);
        due("a PART in row 2", opened(8, 2, partRow(0, 0, 3, 5, 0)).partOf(3, 3), 2);
        due("a PART in row 511", opened(512, 511, partRow(0, 0, 3, 5, 0)).partOf(3, 3), 511);
        due("a PART in row 3 of 4", opened(4, 3, partRow(0, 0, 3, 5, 0)).partOf(3, 3), 3);
        MarkLog two = opened(4, 2, partRow(0, 0, 3, 5, 0), partRow(0, 0, 2, 5, 0));
        due("PARTS in rows 2 and 3", two.told(4), 2);
    }

    private static void partsPassed() {
        int[] inner = partRow(0, 0, 9, 0, 0);
        says("and the next row is that behind it");
        MarkLog x = opened(8, 2, partRow(0, 32, 3, 5, 0), inner, inner, partRow(0, 0, 4, 0, 0));
        due("PARTS", x.told(4), 2);
        due("the one inside", x.partOf(9, 3), NONE);
        due("the one behind", x.partOf(4, 3), 5);

        says("others are passed over");
        x.poke(2, 24, 1);
        x.open();
        due("the row behind one that is none", x.partOf(9, 3), 3);
        due("PARTS", x.told(4), 2);

        says("(The first of a NUMBER counts, a second one is passed over with its rows, that are FREE then.)");
        MarkLog y = opened(10, 2, partRow(1, 0, 3, 5, 0), partRow(2, 31, 3, 6, 0), inner, partRow(3, 0, 4, 0, 0), partRow(4, 0, 3, 7, 0));
        due("PARTS", y.told(4), 2);
        due("GROUP of the first", y.partOf(3, 0), 1);
        due("row of the first", y.partOf(3, 3), 2);
        due("what stands in the rows of the second", y.partOf(9, 3), NONE);
        due("the one behind", y.partOf(4, 3), 5);
        due("greatest", y.told(5), 4);
        due("FREE", y.told(3), 6);
        due("badAt(): a second one is not known", y.badAt(), NONE);
        due("a PART of 2 rows", partOfLength(y, 1), 5);
        due("takes those of the second", y.partOf(5, 3), 3);

        says("The first of a NUMBER counts (one that is none does not count as the first)");
        MarkLog z = opened(8, 2, partRow(8, 0, 3, 5, 0), partRow(2, 0, 3, 6, 0));
        due("GROUP", z.partOf(3, 0), 2);
        says("a PART and a MARK may have the same NUMBER");
        MarkLog w = opened(8, 2, joinedRows(partRows(0, 3, 5), markRows(3, new long[] {3, 2, 0})));
        due("PARTS", w.told(4), 1);
        due("marks(0)", w.marks(0), 3);
    }

    private static int[][] joinedRows(int[][]... pieces) {
        java.util.List<int[]> all = new java.util.ArrayList<>();
        for (int[][] piece : pieces) all.addAll(java.util.Arrays.asList(piece));
        return all.toArray(new int[0][]);
    }

    // ---- OPENING: MARKS

    private static void marksFound() {
        says("with 1 .. 12 PARTS");
        for (int count : new int[] {0, 1, 2, 11, 12, 13, 14}) {
            MarkLog x = opened(20, 2, markRows(6, rising(count)));
            due("MARKS of " + count, x.marks(NONE), count >= 1 && count <= 12 ? 1 : 0);
            due("greatest in ENTRIES", x.told(5), count <= 12 ? count : 0);
        }
        MarkLog many = opened(140, 2, markRows(6, rising(255)));
        due("MARKS of 255", many.marks(NONE), 0);
        MarkLog zero = opened(8, 2, markOfEntries(6, 0, new int[32]));
        due("MARKS of 0 with an ENTRY", zero.marks(NONE), 0);

        says("NUMBER likewise");
        long[][] numbers = {{0, 0}, {1, 1}, {BILLION - 1, 1}, {BILLION, 1}, {BILLION + 1L, 0}, {0x80000001L, 0}, {0xFFFFFFFFL, 0}};
        for (long[] n : numbers) {
            MarkLog x = opened(8, 2, markRows(n[0], ONE));
            due("MARKS of NUMBER " + n[0], x.marks(NONE), n[1]);
            due("greatest", x.told(6), n[0] * n[1]);
        }

        says("in which the NUMBERS rise and are 1 .. 1000000000");
        long[][] entries = {{1, 1, 2}, {0, 2, 1}, {0, 1, 1}, {1, 1, BILLION}, {0, 1, BILLION + 1L}, {0, 0, 1}, {1, BILLION - 1, BILLION},
            {0, BILLION, BILLION}, {0, 1, 0x80000001L}, {0, 1, 0xFFFFFFFFL}, {0, 0xFFFFFFFFL, 1}, {0, 5, 0}};
        for (long[] e : entries) {
            MarkLog x = opened(8, 2, markRows(6, new long[] {e[1], 9, 9}, new long[] {e[2], 9, 9}));
            due("MARKS that name " + e[1] + " and " + e[2], x.marks(NONE), e[0]);
            due("greatest PART", x.told(5), e[0] * e[2]);
        }
        for (int k = 0; k < 12; k++) {
            long[][] parts = rising(12);
            parts[k][0] = k == 0 ? 2 : parts[k - 1][0];
            due("NUMBERS that do not rise at " + k, opened(10, 2, markRows(6, parts)).marks(NONE), 0);
        }
        for (long number : new long[] {0, 1, BILLION, BILLION + 1L}) {
            MarkLog x = opened(8, 2, markRows(6, new long[] {number, 9, 9}));
            due("MARK that names " + number + " alone", x.marks(NONE), number == 1 || number == BILLION ? 1 : 0);
        }
    }

    private static void marksWithSums() {
        says("a row that begins with 2, whose SUM fits");
        int[][] mark = markRows(6, rising(3));
        for (int begin : new int[] {0, 1, 3, 4, 5, 6, 130, 255}) {
            MarkLog x = new MarkLog(8);
            setRows(x, 2, mark);
            setRow(x, 2, altered(mark[0], 0, begin));
            due("MARKS with " + begin, x.open(), 0);
        }
        says("with the DIGEST of its ENTRIES");
        for (int i = 0; i < 96; i++) {
            MarkLog x = opened(8, 2, mark);
            due("open()", x.open(), 1);
            x.poke(2 + i / 32, i % 32, 1);
            due("open() with row " + i / 32 + " byte " + i % 32 + " altered", x.open(), 0);
            due("FREE", x.told(3), 6);
            due("greatest", x.told(6), 0);
            due("greatest PART", x.told(5), 0);
        }

        says("ENTRIES .. 6; .. 0s behind (OPENING asks for the DIGEST alone)");
        int[] entry = java.util.Arrays.copyOf(mark[1], 32);
        entry[0] = 9;
        entry[29] = entry[31] = 200;
        due("another ENTRY", opened(8, 2, markOfEntries(6, 2, entry)).marks(NONE), 1);
        for (int i : new int[] {2, 3, 16, 23}) {
            MarkLog x = new MarkLog(8);
            setRows(x, 2, mark);
            setRow(x, 2, altered(mark[0], i, 255));
            due("a first row whose byte " + i + " is not 0", x.open(), 1);
        }
    }

    private static void marksAtTheEnd() {
        says("all of whose rows are there");
        for (int count = 1; count <= 12; count++) {
            int[][] mark = markRows(6, rising(count));
            MarkLog x = opened(14, 14 - mark.length, mark);
            due("MARKS of " + count + " up to the last row", x.marks(NONE), 1);
            due("FREE", x.told(3), 12 - mark.length);
            MarkLog y = opened(14, 15 - mark.length, java.util.Arrays.copyOf(mark, mark.length - 1));
            due("MARKS of " + count + " one row behind the end", y.marks(NONE), 0);
            due("FREE", y.told(3), 12);
        }
        // the DIGEST of no bytes is 0, so rows that are not there would fit
        int[] alone = markRows(6)[0];
        alone[1] = 1;
        due("a MARK in the last row", opened(8, 7, summed(alone)).marks(NONE), 0);
        says("then rows from 2 on");
        due("a MARK in row 1", opened(8, 1, markRows(6, ONE)).marks(NONE), 0);
        due("a MARK in row 2 of 4", opened(4, 2, markRows(6, ONE)).marks(NONE), 1);
    }

    private static void marksPassed() {
        says("is a kept MARK, likewise (the next row is that behind it)");
        int[] inner = partRow(0, 0, 1, 0, 0);
        // a row that is an ENTRY and a PART at once: 1 as its first byte, its NUMBERS rising
        int[] entry = new int[32];
        entry[0] = 1;
        entry[4] = 3;
        put(entry, 15, 0x01000000L, 4);
        summed(entry);
        MarkLog x = opened(8, 2, joinedRows(markOfEntries(6, 2, entry), new int[][] {inner}));
        due("MARKS", x.marks(NONE), 1);
        due("PARTS: the ENTRY is none", x.told(4), 1);
        due("the PART behind", x.partOf(1, 3), 4);
        x.poke(2, 24, 1);
        x.open();
        due("MARKS", x.marks(NONE), 0);
        due("PARTS: the row behind one that is none", x.told(4), 2);

        says("(The first of a NUMBER counts, a second one is passed over with its rows, that are FREE then.)");
        MarkLog y = opened(12, 2, joinedRows(markRows(6, new long[] {4, 9, 9}), markRows(6, rising(3)), markRows(5, ONE), markRows(6, new long[] {90, 9, 9})));
        due("MARKS", y.marks(NONE), 2);
        due("markOf(6, 0)", y.markOf(6, 0), 4);
        due("markOf(6, -1)", y.markOf(6, NONE), 1);
        due("marks(0)", y.marks(0), 5);
        due("greatest PART: a second one's ENTRIES do not count", y.told(5), 4);
        due("named(2)", y.named(2), 0);
        due("FREE", y.told(3), 6);
        due("badAt()", y.badAt(), NONE);
        partOfLength(y, 32);
        due("a PART of 3 rows takes those of the second", y.partOf(5, 3), 4);
        MarkLog z = opened(12, 2, joinedRows(markRows(6, ONE), markOfEntries(6, 2, entry), new int[][] {inner}));
        due("PARTS: the ENTRY of the second is passed over with it", z.told(4), 1);
        due("the PART behind", z.partOf(1, 3), 6);
        due("FREE", z.told(3), 7);
        z.poke(4, 24, 1);
        z.open();
        due("PARTS: the row behind one that is none", z.told(4), 2);
    }

    private static void greatestNumbers() {
        says("The greatest NUMBERS are those of PARTS, also in ENTRIES, and of MARKS (0 without any)");
        MarkLog none = opened(8, 2, new int[32]);
        due("greatest PART", none.told(5), 0);
        due("greatest MARK", none.told(6), 0);
        MarkLog part = opened(8, 2, joinedRows(partRows(0, 8, 0), partRows(0, 5, 0), markRows(3, new long[] {7, 2, 0})));
        due("of PARTS", part.told(5), 8);
        due("of MARKS", part.told(6), 3);
        due("part", part.part(0, 0), 9);
        MarkLog entry = opened(12, 2, joinedRows(partRows(0, 8, 0), markRows(3, new long[] {2, 2, 0}, new long[] {9, 2, 0}), markRows(2, ONE)));
        due("in ENTRIES", entry.told(5), 9);
        due("of MARKS", entry.told(6), 3);
        due("part", entry.part(0, 0), 10);
        due("mark", entry.mark(1), 4);
        MarkLog last = opened(12, 2, markRows(BILLION - 1, new long[] {BILLION - 1, 2, 0}));
        due("part", last.part(0, 0), BILLION);
        due("mark", last.mark(1), BILLION);

        says("MARKS that were not kept are no more");
        last.open();
        due("MARKS not kept", last.told(8), 0);
        due("whole", last.whole(BILLION), NONE);
        due("greatest MARK", last.told(6), BILLION - 1);
        due("greatest PART", last.told(5), BILLION);
    }

    // ---- WHOLE

    private static void wholeParts() {
        int[][] rows = partRows(2, 7, 5, 1, 2, 3);
        says("A PART is WHOLE if its first row begins with 1");
        MarkLog x = opened(8, 2, rows);
        due("WHOLE", x.partOf(7, 4), 1);
        for (int begin : new int[] {0, 2, 129}) {
            setRow(x, 2, altered(rows[0], 0, begin));
            due("one that begins with " + begin, x.partOf(7, 4), 0);
        }
        says("its SUM fits");
        setRow(x, 2, rows[0]);
        for (int i = 0; i < 32; i++) {
            x.poke(2, i, 1);
            due("with byte " + i + " of the first row altered", x.partOf(7, 4), 0);
            x.poke(2, i, 1);
        }
        says("its NUMBER is that");
        for (long number : new long[] {6, 8, 0, 0x80000007L, 263}) {
            setRow(x, 2, partRow(2, 3, number, 5, digest(rows[1], 0, 32)));
            due("NUMBER " + number, x.partOf(7, 4), 0);
        }
        says("its length as it was known");
        for (int length : new int[] {2, 4, 259, 0, 31}) {
            setRow(x, 2, partRow(2, length, 7, 5, digest(rows[1], 0, 32)));
            due("length " + length, x.partOf(7, 4), 0);
        }
        says("(GROUP and POSITION are not asked for)");
        setRow(x, 2, partRow(200, 3, 7, -1, digest(rows[1], 0, 32)));
        due("another GROUP, another POSITION", x.partOf(7, 4), 1);
        says("and the DIGEST in it is that of its BODIES");
        for (int i = 0; i < 32; i++) {
            x.poke(3, i, 1);
            due("with byte " + i + " of its BODY altered", x.partOf(7, 4), 0);
            x.poke(3, i, 1);
        }
        setRow(x, 2, partRow(2, 3, 7, 5, digest(rows[1], 0, 32) + 1));
        due("another DIGEST", x.partOf(7, 4), 0);
        setRow(x, 2, rows[0]);
        x.poke(4, 0, 255);
        due("the row behind does not count", x.partOf(7, 4), 1);

        int[] body = rows[1].clone();
        body[0] = 9;
        body[31] = 9;
        MarkLog y = opened(8, 2, partRow(2, 3, 7, 5, digest(body, 0, 32)), body);
        due("a BODY with 9 for 5 and no 0s, but the DIGEST of it", y.partOf(7, 4), 1);
    }

    private static void longestPartWhole() {
        says("the DIGEST in it is that of its BODIES (each of them, to the last byte)");
        MarkLog x = new MarkLog(10);
        partOfLength(x, 155);
        for (int row = 3; row <= 8; row++) {
            for (int i = 0; i < 32; i += 31) {
                x.poke(row, i, 1);
                due("row " + row + " byte " + i, x.partOf(1, 4), row < 8 ? 0 : 1);
                x.poke(row, i, 1);
            }
        }
    }

    private static void wholeKept() {
        int[][] part = partRows(2, 7, 5, 1, 2, 3);
        long digest = digest(part[1], 0, 32);
        int[][] mark = markRows(4, new long[] {7, 2, digest});
        MarkLog x = opened(12, 2, joinedRows(part, mark));
        due("whole(4)", x.whole(4), 1);
        says("A kept MARK is WHOLE if its rows are as when it was found (its first row begins with 2");
        for (int begin : new int[] {0, 1, 3, 130}) {
            setRow(x, 4, altered(mark[0], 0, begin));
            due("one that begins with " + begin, x.whole(4), 0);
        }
        says("its SUM fits, NUMBER, how many PARTS, the DIGEST are the same, and that is the DIGEST of its ENTRIES)");
        setRow(x, 4, mark[0]);
        for (int i = 0; i < 64; i++) {
            x.poke(4 + i / 32, i % 32, 1);
            due("with byte " + i + " altered", x.whole(4), 0);
            due("badAt()", x.badAt(), 4);
            x.poke(4 + i / 32, i % 32, 1);
        }
        for (int i : new int[] {4, 5, 6, 7, 1, 8, 15}) {
            setRow(x, 4, altered(mark[0], i, mark[0][i] ^ 2));
            due("with byte " + i + " altered and its SUM right", x.whole(4), 0);
            due("badAt()", x.badAt(), 4);
        }
        setRows(x, 4, markRows(4, new long[] {7, 2, digest}, new long[] {8, 2, digest}));
        due("with one PART more", x.whole(4), 0);
        setRows(x, 4, markRows(4, new long[] {7, 3, digest}));
        due("with other ENTRIES and their DIGEST", x.whole(4), 0);
        setRows(x, 4, mark);
        for (int i : new int[] {2, 3, 16, 23}) {
            setRow(x, 4, altered(mark[0], i, 9));
            due("with byte " + i + " altered, that tells nothing, and its SUM right", x.whole(4), 1);
            due("badAt()", x.badAt(), NONE);
        }
        setRows(x, 4, mark);
        due("whole(4)", x.whole(4), 1);
        x.poke(6, 0, 1);
        due("the row behind does not count", x.whole(4), 1);
    }

    private static void wholeByParts() {
        int[][] part = partRows(2, 7, 5, 1, 2, 3);
        long digest = digest(part[1], 0, 32);
        says("all its PARTS are known");
        due("one that is not known", opened(12, 2, joinedRows(part, markRows(4, new long[] {7, 2, digest}, new long[] {8, 2, digest}))).whole(4), 0);
        due("the only one is not known", opened(12, 2, joinedRows(part, markRows(4, new long[] {6, 2, digest}))).whole(4), 0);
        says("begin where its ENTRIES tell");
        for (long row : new long[] {1, 3, 258, 0, 65535}) {
            due("row " + row, opened(12, 2, joinedRows(part, markRows(4, new long[] {7, row, digest}))).whole(4), 0);
        }
        says("with the DIGEST that these tell");
        for (int bit = 0; bit < 64; bit++) {
            MarkLog x = opened(12, 2, joinedRows(part, markRows(4, new long[] {7, 2, digest ^ 1L << bit})));
            due("bit " + bit + " of the DIGEST", x.whole(4), 0);
            due("badAt(): the rows are as they were found", x.badAt(), NONE);
        }
        says("and are WHOLE");
        MarkLog x = opened(12, 2, joinedRows(part, markRows(4, new long[] {7, 2, digest})));
        x.mark(1);
        x.poke(3, 9, 1);
        due("whole(4)", x.whole(4), 0);
        says("one that is not kept: if all its PARTS are known and WHOLE");
        due("whole(5)", x.whole(5), 0);
        x.poke(3, 9, 1);
        due("whole(5)", x.whole(5), 1);
        int[] body = part[1].clone();
        body[1] ^= 1;
        setRow(x, 3, body);
        setRow(x, 2, partRow(2, 3, 7, 5, digest(body, 0, 32)));
        due("whole(5) with other bytes, WHOLE by themselves", x.whole(5), 1);
        due("whole(4), whose ENTRIES tell another DIGEST", x.whole(4), 0);

        says("all its PARTS (the first to the twelfth)");
        MarkLog y = new MarkLog(24);
        for (int k = 1; k <= 12; k++) y.part(0, k);
        y.mark(12);
        y.keep(1);
        y.mark(12);
        for (int k = 0; k < 12; k++) {
            y.poke(2 + k, 9, 1);
            due("whole(1) with PART " + (k + 1) + " altered", y.whole(1), 0);
            due("whole(2) with PART " + (k + 1) + " altered", y.whole(2), 0);
            y.poke(2 + k, 9, 1);
        }
        due("whole(1)", y.whole(1), 1);
        due("whole(2)", y.whole(2), 1);
    }

    // ---- FREE rows

    private static void freeRows() {
        says("Rows that belong to no PART and no kept MARK that it knows (nor are 0, 1) are FREE, whatever they are");
        MarkLog x = new MarkLog(12);
        spoil(x, 0, 12);
        due("FREE of rows that are nothing", x.told(3), 10);
        x.open();
        due("FREE of rows that are nothing", x.told(3), 10);
        partOfLength(x, 33);
        due("FREE", x.told(3), 7);
        dueRows(x, 2, partRows(0, 1, 0, rising(1, 33)));
        x.mark(1);
        due("a MARK that is not kept has no rows", x.told(3), 7);
        x.keep(1);
        due("FREE", x.told(3), 5);
        long digest = number(x, 2, 16, 8);
        dueRows(x, 5, markRows(1, new long[] {1, 2, digest}));
        x.poke(2, 0, 255);
        x.poke(5, 0, 255);
        due("rows that were altered belong to what is known still", x.told(3), 5);
        due("part", x.part(0, 0), 2);
        due("row", x.partOf(2, 3), 7);
        x.open();
        due("after OPENING they are FREE", x.told(3), 9);
        due("part", x.part(0, 0), 3);
        due("row", x.partOf(3, 3), 2);
    }

    private static int[] rising(int first, int n) {
        int[] all = new int[n];
        for (int k = 0; k < n; k++) all[k] = first + k;
        return all;
    }

    private static void firstFreeRows() {
        says("What is written takes the first FREE rows, one behind the other, that are enough");
        // FREE: row 3, rows 5 and 6, rows 8 to 10, rows 12 to 15
        int[] taken = {2, 4, 7, 11};
        int[][] places = {{0, 3}, {1, 5}, {31, 5}, {32, 8}, {62, 8}, {63, 12}, {93, 12}, {94, FULL}, {155, FULL}};
        for (int[] p : places) {
            MarkLog x = new MarkLog(16);
            for (int k = 0; k < 4; k++) setRow(x, taken[k], partRow(0, 0, k + 1, 0, 0));
            x.open();
            int answer = partOfLength(x, p[0]);
            due("part of " + p[0], answer, p[1] == FULL ? FULL : 5);
            due("row of " + p[0], x.partOf(5, 3), p[1] == FULL ? NONE : p[1]);
        }
        int[][] marks = {{1, 5}, {2, 5}, {3, 8}, {4, 8}};
        for (int[] m : marks) {
            MarkLog x = new MarkLog(16);
            for (int k = 0; k < 4; k++) setRow(x, taken[k], partRow(0, 0, k + 1, 0, 0));
            x.open();
            x.mark(m[0]);
            due("keep of " + m[0], x.keep(1), 1);
            due("row of a MARK of " + m[0], x.byteAt(m[1], 0), 2);
        }
        MarkLog end = new MarkLog(8);
        partOfLength(end, 100);
        due("no row behind the end", partOfLength(end, 1), FULL);
        due("the last row", end.part(0, 0), 2);
        due("row", end.partOf(2, 3), 7);
        due("none is FREE", end.told(3), 0);
    }

    public static void main(String[] args) {
        section("Terms");
        digests();
        goodHeads();
        headThatCounts();
        partsFound();
        partsAtTheEnd();
        partsPassed();
        marksFound();
        marksWithSums();
        marksAtTheEnd();
        marksPassed();
        greatestNumbers();
        wholeParts();
        longestPartWhole();
        wholeKept();
        wholeByParts();
        freeRows();
        firstFreeRows();
        end("all terms hold");
    }
}

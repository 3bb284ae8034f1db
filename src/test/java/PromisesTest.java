/** Each promise of the document by itself: ordinary inputs, the edges that it names, and wrong inputs. */
public final class PromisesTest extends Checks {
    // ---- the promises

    private static void newObject() {
        int[][] sizes = {{4, 4}, {3, 4}, {0, 4}, {-7, 4}, {Integer.MIN_VALUE, 4}, {5, 5}, {511, 511}, {512, 512}, {513, 512},
            {Integer.MAX_VALUE, 512}};
        for (int[] size : sizes) {
            MarkLog x = new MarkLog(size[0]);
            due("told(0) of " + size[0], x.told(0), 1);
            due("told(1) of " + size[0], x.told(1), size[1]);
            due("told(2)", x.told(2), 0);
            due("told(3) of " + size[0], x.told(3), size[1] - 2);
            for (int what = 4; what <= 16; what++) due("told(" + what + ")", x.told(what), 0);
            due("marks(-1)", x.marks(NONE), 0);
            for (int row = 0; row < size[1]; row++) due("row " + row + " all 0", isClear(x, row), true);
            due("byteAt behind the last", x.byteAt(size[1], 0), BAD);
        }
    }

    private static void constants() {
        due("NONE", MarkLog.NONE, -1);
        due("BAD", MarkLog.BAD, -2);
        due("CLOSED", MarkLog.CLOSED, -3);
        due("FULL", MarkLog.FULL, -4);
        due("LOST", MarkLog.LOST, -5);
    }

    private static void feed() {
        MarkLog x = new MarkLog(20);
        due("feed(.., 3)", x.feed(0x1122334455667788L, 3), 3);
        due("feed(.., 8)", x.feed(-2L, 8), 11);
        x.part(0, 0);
        int[] bytes = {0x88, 0x77, 0x66, 0xFE, 0xFF, 0xFF, 0xFF, 0xFF, 0xFF, 0xFF, 0xFF};
        for (int i = 0; i < bytes.length; i++) due("partByte(1, " + i + ")", x.partByte(1, i), bytes[i]);
        for (int n : new int[] {0, 9, -1, Integer.MIN_VALUE, Integer.MAX_VALUE}) due("feed(1, " + n + ")", x.feed(1, n), BAD);
        due("wipe()", x.wipe(), 0);
        for (int k = 1; k <= 249; k++) due("feed", x.feed(k, 8), 8 * k);
        due("feed(1, 7)", x.feed(1, 7), 1999);
        due("feed(1, 2)", x.feed(1, 2), FULL);
        due("feed(1, 9)", x.feed(1, 9), BAD);
        x.close();
        due("feed(1, 1) CLOSED", x.feed(1, 1), 2000);
        due("feed(1, 1) CLOSED", x.feed(1, 1), FULL);
        due("wipe()", x.wipe(), 2000);
    }

    private static void wipe() {
        MarkLog x = new MarkLog(20);
        due("wipe()", x.wipe(), 0);
        x.feed(-1, 8);
        due("wipe()", x.wipe(), 8);
        due("wipe()", x.wipe(), 0);
        x.feed(7, 1);
        x.close();
        due("wipe() CLOSED", x.wipe(), 1);
        x.open();
        x.feed(7, 1);
        x.part(1, 1);
        due("length", x.partOf(1, 2), 1);
    }

    private static void part() {
        MarkLog x = new MarkLog(20);
        feedRising(x, 10, 32);
        due("part(7, -2)", x.part(7, -2), 1);
        int[] bodies = new int[64];
        bodies[0] = bodies[32] = 5;
        for (int i = 0; i < 31; i++) bodies[1 + i] = 10 + i;
        bodies[33] = 41;
        dueRow(x, 2, partRow(7, 32, 1, -2, digest(bodies, 0, 64)));
        for (int i = 0; i < 64; i++) due("body byte " + i, x.byteAt(3 + i / 32, i % 32), bodies[i]);
        due("bytes written", x.told(2), 96);
        due("the TAPE", x.wipe(), 0);
        due("part of nothing", x.part(0, Long.MIN_VALUE), 2);
        dueRow(x, 5, partRow(0, 0, 2, Long.MIN_VALUE, 0));
        due("FREE", x.told(3), 14);
        due("PARTS", x.told(4), 2);
        due("greatest", x.told(5), 2);
    }

    /** What was written before leaves nothing in what is written now. */
    private static void writtenAfterAnother() {
        MarkLog x = new MarkLog(40);
        for (int k = 0; k < 155; k++) x.feed(255, 1);
        x.part(7, -1);
        x.feed(9, 1);
        x.part(0, 0);
        int[] body = new int[32];
        body[0] = 5;
        body[1] = 9;
        dueRow(x, 9, body);
        dueRow(x, 8, partRow(0, 1, 2, 0, digest(body, 0, 32)));
        x.feed(9, 1);
        x.part(7, -1);
        x.mark(3);
        x.keep(1);
        long first = number(x, 2, 16, 8);
        long other = digest(body, 0, 32);
        int[][] rows = markRows(1, new long[] {1, 2, first}, new long[] {2, 8, other}, new long[] {3, 10, other});
        for (int k = 0; k < 3; k++) dueRow(x, 12 + k, rows[k]);
        x.owner(0);
        dueRow(x, 1, head(1, 1));
    }

    private static void manyParts() {
        MarkLog x = new MarkLog(512);
        for (int k = 1; k <= 510; k++) due("part " + k, x.part(k % 8, k), k);
        due("part", x.part(0, 0), FULL);
        due("FREE", x.told(3), 0);
        due("open()", x.open(), 0);
        due("PARTS", x.told(4), 510);
        due("POSITION", x.partOf(510, 1), 510);
        due("row", x.partOf(510, 3), 511);
    }

    private static void partRefused() {
        MarkLog x = new MarkLog(8);
        for (int group : new int[] {-1, 8, Integer.MIN_VALUE, Integer.MAX_VALUE}) {
            x.feed(1, 1);
            due("part(" + group + ", 0)", x.part(group, 0), BAD);
            due("the TAPE is read", x.wipe(), 0);
        }
        feedRising(x, 0, 156);
        due("part of 156", x.part(0, 0), BAD);
        due("the TAPE is read", x.wipe(), 0);
        due("nothing written", x.told(2), 0);
        due("part of 155", partOfLength(x, 155), 1);
        due("part of 0", partOfLength(x, 0), FULL);
        x.feed(1, 1);
        due("part of 1", x.part(0, 0), FULL);
        due("the TAPE is read", x.wipe(), 0);
        due("bytes written", x.told(2), 192);
        due("part(8, 0): BAD before FULL", x.part(8, 0), BAD);
        x.close();
        x.feed(1, 1);
        due("part(8, 0): CLOSED before BAD", x.part(8, 0), CLOSED);
        due("the TAPE is read", x.wipe(), 0);
        x.feed(1, 1);
        due("part(0, 0)", x.part(0, 0), CLOSED);
        x.open();
        due("the TAPE is read, also if it is OPEN again", x.wipe(), 0);
        due("nothing written", x.told(2), 192);

        MarkLog y = new MarkLog(8);
        setRow(y, 7, partRow(0, 0, BILLION - 1, 0, 0));
        y.open();
        due("part", y.part(0, 0), BILLION);
        due("part", y.part(0, 0), FULL);
        y.open();
        due("part", y.part(0, 0), FULL);
    }

    private static void partPlaces() {
        MarkLog x = new MarkLog(14);
        partOfLength(x, 40);
        partOfLength(x, 1);
        x.mark(1);
        x.keep(1);
        x.drop(1);
        due("PART 1 is gone", x.told(4), 1);
        due("FREE", x.told(3), 8);
        due("of 4 rows", partOfLength(x, 93), 3);
        due("row", x.partOf(3, 3), 9);
        due("of 2 rows", partOfLength(x, 31), 4);
        due("row", x.partOf(4, 3), 2);
        due("of 2 rows", partOfLength(x, 31), FULL);
        due("of 1 row", partOfLength(x, 0), 5);
        due("row", x.partOf(5, 3), 4);
        due("of 1 row", partOfLength(x, 0), 6);
        due("row", x.partOf(6, 3), 13);
    }

    private static void partLost() {
        for (int n = 0; n <= 96; n++) {
            MarkLog x = new MarkLog(8);
            x.cut(n);
            feedRising(x, 1, 33);
            due("part with " + n, x.part(1, 1), n < 96 ? LOST : 1);
            due("the TAPE", x.wipe(), 0);
            due("OPEN with " + n, x.told(0), n < 96 ? 0 : 1);
            due("bytes written", x.told(2), n);
            due("the row behind is written first", x.byteAt(3, 0), n > 0 ? 5 : 0);
            due("the last row", x.byteAt(4, 0), n > 32 ? 5 : 0);
            due("the first row comes last", x.byteAt(2, 0), n > 64 ? 1 : 0);
            x.open();
            due("PARTS with " + n, x.told(4), n < 96 ? 0 : 1);
        }
    }

    private static void mark() {
        MarkLog x = new MarkLog(40);
        for (int n : new int[] {0, 13, -1, Integer.MIN_VALUE, Integer.MAX_VALUE}) due("mark(" + n + ")", x.mark(n), BAD);
        due("mark(1)", x.mark(1), NONE);
        for (int k = 1; k <= 13; k++) x.part(0, k);
        due("mark(12)", x.mark(12), 1);
        due("first", x.markOf(1, 0), 2);
        due("last", x.markOf(1, 11), 13);
        due("mark(1)", x.mark(1), 2);
        due("its PART", x.markOf(2, 0), 13);
        for (int k = 3; k <= 6; k++) due("mark(2)", x.mark(2), k);
        due("seventh", x.mark(2), FULL);
        due("mark(0): BAD before FULL", x.mark(0), BAD);
        due("nothing written but PARTS", x.told(2), 13 * 32);
        x.give(6);
        due("NUMBERS are not used again", x.mark(2), 7);
        due("greatest", x.told(6), 7);
        x.close();
        due("mark(0)", x.mark(0), CLOSED);

        MarkLog y = new MarkLog(12);
        setRows(y, 3, markRows(BILLION - 1, new long[] {1, 2, 0}));
        y.open();
        due("mark(1): no PART", y.mark(1), NONE);
        y.part(0, 0);
        due("mark(2): NONE", y.mark(2), NONE);
        due("mark(1)", y.mark(1), BILLION);
        due("mark(1)", y.mark(1), FULL);
        due("mark(2): NONE before FULL", y.mark(2), NONE);
        due("mark(13)", y.mark(13), BAD);
    }

    private static void keep() {
        MarkLog x = new MarkLog(13);
        due("keep(1)", x.keep(1), NONE);
        partOfLength(x, 3);
        partOfLength(x, 0);
        x.part(5, 5);
        long digest = number(x, 2, 16, 8);
        x.mark(3);
        int before = x.told(2);
        due("keep(1)", x.keep(1), 1);
        due("bytes written", x.told(2), before + 96);
        int[][] rows = markRows(1, new long[] {1, 2, digest}, new long[] {2, 4, 0}, new long[] {3, 5, 0});
        for (int k = 0; k < 3; k++) dueRow(x, 6 + k, rows[k]);
        due("keep(1)", x.keep(1), NONE);
        due("not kept", x.told(8), 0);
        due("FREE", x.told(3), 4);
        due("keep(0)", x.keep(0), NONE);
        due("keep(-1)", x.keep(NONE), NONE);
        x.mark(1);
        x.mark(3);
        due("keep(3)", x.keep(3), 1);
        due("keep(2)", x.keep(2), FULL);
        due("not kept still", x.told(8), 1);
        due("whole(2)", x.whole(2), 1);
        due("keep(4): NONE before FULL", x.keep(4), NONE);
        x.close();
        due("keep(2)", x.keep(2), CLOSED);
    }

    private static void manyKept() {
        MarkLog x = new MarkLog(512);
        x.part(0, 0);
        for (int k = 1; k <= 254; k++) {
            due("mark(1)", x.mark(1), k);
            due("keep(" + k + ")", x.keep(k), 1);
        }
        x.mark(1);
        due("keep(255)", x.keep(255), FULL);
        due("open()", x.open(), 254);
        due("marks(253)", x.marks(253), 254);
        due("named(1)", x.named(1), 254);
        due("drop(0)", x.drop(0), 1);
        due("FREE", x.told(3), 510);
        for (int k = 0; k < 255; k++) setRows(x, 2 + 2 * k, markRows(1000 - k, new long[] {1, 2, 0}));
        due("open()", x.open(), 255);
        due("marks(0)", x.marks(0), 746);
        due("FREE", x.told(3), 0);
    }

    private static void keepLost() {
        for (int n = 0; n <= 64; n++) {
            MarkLog x = new MarkLog(8);
            x.part(1, 1);
            x.mark(1);
            x.cut(n);
            due("keep with " + n, x.keep(1), n < 64 ? LOST : 1);
            due("OPEN", x.told(0), n < 64 ? 0 : 1);
            due("ENTRY first", x.byteAt(4, 0), n > 0 ? 6 : 0);
            due("first row last", x.byteAt(3, 0), n > 32 ? 2 : 0);
            due("open()", x.open(), n < 64 ? 0 : 1);
            due("told(8)", x.told(8), 0);
        }
        MarkLog y = new MarkLog(8);
        y.part(1, 1);
        y.poke(2, 20, 9);
        y.mark(1);
        y.keep(1);
        due("the DIGEST that stands in the PART", number(y, 4, 7, 8), number(y, 2, 16, 8));
        due("whole(1)", y.whole(1), 0);
    }

    private static void give() {
        MarkLog x = new MarkLog(10);
        due("give(1)", x.give(1), NONE);
        x.part(0, 0);
        x.mark(1);
        x.mark(1);
        x.keep(2);
        int before = x.told(2);
        due("give(2): kept", x.give(2), NONE);
        due("give(1)", x.give(1), 1);
        due("give(1)", x.give(1), NONE);
        due("whole(1)", x.whole(1), NONE);
        due("named(1)", x.named(1), 1);
        due("not kept", x.told(8), 0);
        due("nothing written", x.told(2), before);
        x.close();
        due("give(1)", x.give(1), CLOSED);
    }

    private static void owner() {
        MarkLog x = new MarkLog(4);
        for (int g : new int[] {-1, 8, Integer.MIN_VALUE, Integer.MAX_VALUE}) due("owner(" + g + ")", x.owner(g), BAD);
        due("owner(0)", x.owner(0), 1);
        dueRow(x, 1, head(1, 1));
        due("row 0", isClear(x, 0), true);
        due("owner(7)", x.owner(7), 1);
        dueRow(x, 0, head(2, 1, 0, 0, 0, 0, 0, 0, 1));
        dueRow(x, 1, head(1, 1));
        due("owner(7)", x.owner(7), 2);
        dueRow(x, 1, head(3, 1, 0, 0, 0, 0, 0, 0, 2));
        due("told(16)", x.told(16), 2);
        due("told(9)", x.told(9), 1);
        due("SERIAL", x.told(7), 3);
        due("bytes", x.told(2), 96);
        x.close();
        due("owner(8)", x.owner(8), CLOSED);

        MarkLog y = new MarkLog(4);
        setRow(y, 0, head(BILLION - 1, 65534, 255));
        y.open();
        due("owner(1)", y.owner(1), 256);
        dueRow(y, 0, head(BILLION, 65534, 256));
        due("owner(2)", y.owner(2), FULL);
        due("owner(8): BAD before FULL", y.owner(8), BAD);
        setRow(y, 0, head(7, 65534));
        y.open();
        due("owner(0)", y.owner(0), 65535);
        due("owner(0)", y.owner(0), FULL);
        due("owner(1)", y.owner(1), 1);
        due("SERIAL", y.told(7), 9);
    }

    private static void ownerLost() {
        for (int n = 0; n <= 32; n++) {
            MarkLog x = new MarkLog(4);
            x.owner(3);
            x.owner(3);
            x.cut(n);
            due("owner(3) with " + n, x.owner(3), n < 32 ? LOST : 3);
            x.open();
            due("told(12) with " + n, x.told(12), n < 32 ? 2 : 3);
            due("SERIAL with " + n, x.told(7), n < 32 ? 2 : 3);
        }
    }

    private static MarkLog threeMarks() {
        MarkLog x = new MarkLog(40);
        for (int k = 1; k <= 5; k++) partOfLength(x, k == 2 ? 33 : 0);
        x.mark(4);
        x.mark(2);
        x.mark(1);
        for (int k = 1; k <= 3; k++) x.keep(k);
        x.part(0, 6);
        return x;
    }

    private static void drop() {
        MarkLog x = threeMarks();
        due("drop(-1)", x.drop(-1), BAD);
        due("drop(MIN)", x.drop(Integer.MIN_VALUE), BAD);
        due("drop(MAX): PART 1 is named by none", x.drop(Integer.MAX_VALUE), 1);
        due("row 2", isClear(x, 2), true);
        due("marks(-1)", x.marks(NONE), 3);
        due("drop(3)", x.drop(3), 0);
        int before = x.told(2);
        due("drop(2)", x.drop(2), 2);
        due("bytes: MARK 3 rows, PARTS 3 and 1", x.told(2) - before, 7 * 32);
        due("marks(0)", x.marks(0), 2);
        due("PART 2", x.partOf(2, 0), NONE);
        due("PART 3", x.partOf(3, 0), NONE);
        x.mark(3);
        due("drop(0): a MARK not kept names them", x.drop(0), 0);
        due("marks(-1)", x.marks(NONE), 0);
        x.give(4);
        due("drop(0): none kept before", x.drop(0), 0);
        due("PARTS", x.told(4), 3);
        due("greatest PART stays", x.told(5), 6);
        due("greatest MARK stays", x.told(6), 4);
        x.close();
        due("drop(-1)", x.drop(-1), CLOSED);

        MarkLog y = threeMarks();
        due("drop(0)", y.drop(0), 5);
        due("PART 6 is above all named", y.partOf(6, 0), 0);
        due("FREE", y.told(3), 37);
        for (int row = 2; row < 40; row++) due("row " + row, isClear(y, row), row != y.partOf(6, 3));
    }

    /** What stays is known as before. */
    private static void dropLeaves() {
        MarkLog x = new MarkLog(40);
        x.part(1, 11);
        feedRising(x, 50, 3);
        x.part(2, 22);
        x.mark(1);
        feedRising(x, 60, 40);
        x.part(3, 33);
        x.mark(2);
        x.mark(1);
        for (int k = 1; k <= 3; k++) x.keep(k);
        due("drop(2)", x.drop(2), 1);
        long[] known = {2, 22, 3, 3, 1, 1};
        for (int what = 0; what < 6; what++) due("partOf(2, " + what + ")", x.partOf(2, what), known[what]);
        known = new long[] {3, 33, 40, 5, 1, 2};
        for (int what = 0; what < 6; what++) due("partOf(3, " + what + ")", x.partOf(3, what), known[what]);
        due("whole(2)", x.whole(2), 1);
        due("whole(3)", x.whole(3), 1);
        due("markOf(2, 0)", x.markOf(2, 0), 2);
        due("markOf(2, -1)", x.markOf(2, NONE), 2);
        due("markOf(3, 0)", x.markOf(3, 0), 3);
        due("badAt()", x.badAt(), NONE);
        MarkLog y = new MarkLog(8);
        y.part(0, 0);
        due("drop(0): PART 1 was never named", y.drop(0), 0);
        due("PARTS", y.told(4), 1);
    }

    private static void dropLost() {
        for (int n = 0; n <= 128; n++) {
            MarkLog x = new MarkLog(10);
            partOfLength(x, 1);
            x.mark(1);
            x.keep(1);
            x.cut(n);
            due("drop(0) with " + n, x.drop(0), n < 128 ? LOST : 1);
            due("the MARK's first row first", x.byteAt(4, 0), n > 0 ? 0 : 2);
            due("its ENTRY then", x.byteAt(5, 0), n > 32 ? 0 : 6);
            due("the PART's first row then", x.byteAt(2, 0), n > 64 ? 0 : 1);
            due("its BODY", x.byteAt(3, 0), n > 96 ? 0 : 5);
            due("open() with " + n, x.open(), n > 0 ? 0 : 1);
        }
        MarkLog y = new MarkLog(30);
        y.part(0, 0);
        for (int k = 1; k <= 3; k++) y.mark(1);
        y.keep(3);
        y.keep(1);
        y.keep(2);
        y.cut(64);
        due("drop(1)", y.drop(1), LOST);
        y.open();
        due("the oldest went first", y.marks(0), 2);
        y.part(0, 1);
        y.cut(0);
        due("drop(2): nothing to write", y.drop(2), 0);
        due("OPEN", y.told(0), 1);
    }

    private static void cut() {
        MarkLog x = new MarkLog(20);
        for (int n : new int[] {-2, 20001, Integer.MIN_VALUE, Integer.MAX_VALUE}) due("cut(" + n + ")", x.cut(n), false);
        due("cut(20000)", x.cut(20000), true);
        due("cut(0)", x.cut(0), true);
        due("cut(-2) changes nothing", x.cut(-2), false);
        due("told(0)", x.told(0), 1);
        due("owner(0)", x.owner(0), LOST);
        due("told(0)", x.told(0), 0);
        due("bytes", x.told(2), 0);
        due("cut(40) CLOSED", x.cut(40), true);
        x.open();
        due("owner(0)", x.owner(0), 1);
        due("owner(0)", x.owner(0), LOST);
        due("bytes", x.told(2), 40);
        x.open();
        due("power is there again", x.owner(0), 2);
        x.cut(0);
        due("cut(-1)", x.cut(NONE), true);
        due("owner(0)", x.owner(0), 3);
        x.cut(1);
        x.close();
        x.open();
        due("closing does not undo it", x.owner(0), LOST);
    }

    private static void close() {
        MarkLog x = new MarkLog(20);
        x.part(0, 0);
        due("close()", x.close(), true);
        due("close()", x.close(), false);
        due("told(0)", x.told(0), 0);
        for (int what = 3; what <= 16; what++) due("told(" + what + ")", x.told(what), 0);
        due("part", x.part(0, 0), CLOSED);
        due("in", x.in(), CLOSED);
        x.open();
        due("told(4)", x.told(4), 1);
        x.cut(0);
        x.owner(0);
        due("close() of what power closed", x.close(), false);
    }

    private static void openFinds() {
        MarkLog x = threeMarks();
        x.mark(1);
        x.owner(2);
        due("open() of an OPEN one", x.open(), 3);
        due("not kept are no more", x.told(8), 0);
        due("greatest MARK", x.told(6), 3);
        due("mark(1)", x.mark(1), 4);
        due("PARTS", x.told(4), 6);
        due("owner", x.told(11), 1);
        due("markOf(1, 3)", x.markOf(1, 3), 5);
        due("POSITION of 6", x.partOf(6, 1), 6);
        x.drop(0);
        x.open();
        due("greatest PART", x.told(5), 6);
        due("greatest MARK", x.told(6), 0);
        x.poke((int) x.partOf(6, 3), 2, 1);
        due("open()", x.open(), 0);
        due("PART 6 is known no more", x.told(4), 0);
        due("its row is FREE", x.told(3), 38);
        due("greatest PART", x.told(5), 0);
        due("part", x.part(0, 0), 1);
    }

    private static void openHeads() {
        int[][] heads = {{5, 4, 5}, {4, 5, 5}, {5, 5, 5}, {0, 3, 3}, {BILLION, 1, BILLION}, {BILLION + 1, 2, 2}, {-1, 2, 2}, {0, 0, 0}};
        for (int[] h : heads) {
            MarkLog x = new MarkLog(4);
            setRow(x, 0, head(h[0], 100));
            setRow(x, 1, head(h[1], 200));
            x.open();
            due("SERIAL of " + h[0] + ", " + h[1], x.told(7), h[2]);
            due("owner", x.told(9), h[2] == 0 ? 0 : h[2] == h[0] ? 100 : 200);
        }
        MarkLog y = new MarkLog(4);
        y.owner(0);
        y.owner(0);
        y.poke(0, 31, 1);
        y.open();
        due("SERIAL", y.told(7), 1);
        y.poke(1, 0, 1);
        y.open();
        due("SERIAL", y.told(7), 0);
        due("owner", y.told(9), 0);
        int[] zeroes = head(6, 1);
        zeroes[1] = 9;
        setRow(y, 0, summed(zeroes));
        y.open();
        due("bytes 1 .. 3 do not matter", y.told(7), 6);
    }

    private static void openParts() {
        int[][] rows = {
            {0, 0, 1, 1}, {7, 0, 1, 1}, {8, 0, 1, 0}, {0, 155, 1, 1}, {0, 156, 1, 0}, {0, 0, 0, 0}, {0, 0, -1, 0},
            {0, 0, BILLION, 1}, {0, 0, BILLION + 1, 0}};
        for (int[] r : rows) {
            MarkLog x = new MarkLog(8);
            setRow(x, 2, partRow(r[0], r[1], r[2], 5, 77));
            x.open();
            due("PART of " + r[0] + " " + r[1] + " " + r[2], x.told(4), r[3]);
            due("greatest", x.told(5), r[3] == 1 ? r[2] : 0);
        }
        MarkLog x = new MarkLog(8);
        setRow(x, 3, partRow(0, 155, 1, 0, 0));
        x.open();
        due("not all its rows are there", x.told(4), 0);
        setRow(x, 3, partRow(0, 124, 1, 0, 0));
        setRow(x, 4, partRow(0, 0, 9, 0, 0));
        x.open();
        due("a row inside a PART is none of its own", x.told(4), 1);
        x.poke(3, 30, 1);
        x.open();
        due("the PART behind a row that is wrong", x.partOf(9, 3), 4);
        MarkLog y = new MarkLog(10);
        setRow(y, 2, partRow(3, 0, 4, 0, 0));
        setRow(y, 3, partRow(4, 31, 4, 0, 0));
        setRow(y, 4, partRow(5, 0, 2, 0, 0));
        setRow(y, 5, partRow(5, 0, 1, 0, 0));
        y.open();
        due("the first of a NUMBER counts", y.partOf(4, 0), 3);
        due("the second is passed over with its rows", y.told(4), 2);
        due("these are FREE", y.told(3), 6);
        due("part", partOfLength(y, 1), 5);
        due("row", y.partOf(5, 3), 3);
    }

    private static void openMarks() {
        long[] one = {1, 2, 0}, two = {2, 3, 0}, far = {BILLION, 3, 0}, none = {0, 3, 0}, over = {BILLION + 1L, 3, 0};
        int[][][] rows = {
            markRows(1, one), markRows(1, one, two), markRows(1, two, one), markRows(1, one, one), markRows(1, one, far),
            markRows(1, one, over), markRows(1, none), markRows(0, one), markRows(BILLION, one), markRows(BILLION + 1, one), markRows(1)};
        int[] found = {1, 1, 0, 0, 1, 0, 0, 0, 1, 0, 0};
        for (int k = 0; k < rows.length; k++) {
            MarkLog x = new MarkLog(8);
            setRows(x, 4, rows[k]);
            due("open() of MARK case " + k, x.open(), found[k]);
        }
        long[][] many = new long[13][];
        for (int k = 0; k < 13; k++) many[k] = new long[] {k + 1, 9, 9};
        MarkLog x = new MarkLog(12);
        setRows(x, 2, markRows(6, many));
        due("13 PARTS", x.open(), 0);
        setRows(x, 2, markRows(6, java.util.Arrays.copyOf(many, 12)));
        due("12 PARTS", x.open(), 1);
        due("greatest PART in ENTRIES", x.told(5), 12);
        due("greatest MARK", x.told(6), 6);
        due("whole(6)", x.whole(6), 0);
        x.poke(4, 31, 1);
        due("the DIGEST of its ENTRIES", x.open(), 0);
        x.poke(4, 31, 1);
        setRows(x, 10, markRows(7, one));
        due("up to the last row", x.open(), 2);
        setRow(x, 10, new int[32]);
        setRow(x, 11, markRows(7, one)[0]);
        due("not all its rows are there", x.open(), 1);
        setRows(x, 9, markRows(6, new long[] {90, 2, 0}));
        due("a second one of a NUMBER", x.open(), 1);
        due("count", x.markOf(6, NONE), 12);
        due("its ENTRIES do not count", x.told(5), 12);
        due("FREE", x.told(3), 3);
    }

    private static void usable() {
        MarkLog x = threeMarks();
        due("usable()", x.usable(), 3);
        x.mark(1);
        due("usable(): not kept does not count", x.usable(), 3);
        x.poke((int) x.partOf(5, 3), 9, 1);
        due("usable()", x.usable(), NONE);
        x.poke((int) x.partOf(5, 3), 9, 1);
        int row = 2;
        while (row < 39 && (x.byteAt(row, 0) != 2 || x.byteAt(row, 7) != 3)) row++;
        x.poke(row + 1, 8, 1);
        due("usable()", x.usable(), 2);
        x.poke(row - 1, 8, 1);
        due("the oldest one", x.usable(), 1);
        due("usable() of nothing", new MarkLog(9).usable(), NONE);
        x.close();
        due("usable()", x.usable(), CLOSED);
    }

    private static MarkLog oneMark() {
        MarkLog x = new MarkLog(20);
        partOfLength(x, 40);
        partOfLength(x, 0);
        x.mark(2);
        x.keep(1);
        x.mark(2);
        return x;
    }

    private static void whole() {
        MarkLog x = oneMark();
        for (int row = 2; row <= 7; row++) {
            for (int i = 0; i < 32; i++) {
                x.poke(row, i, 128);
                due("whole(1) with row " + row + " byte " + i, x.whole(1), 0);
                due("whole(2) with row " + row + " byte " + i, x.whole(2), row > 5 ? 1 : 0);
                x.poke(row, i, 128);
            }
        }
        due("whole(1)", x.whole(1), 1);
        due("whole(3)", x.whole(3), NONE);
        due("whole(0)", x.whole(0), NONE);
        due("whole(-1)", x.whole(NONE), NONE);
        setRow(x, 5, partRow(3, 0, 2, 99, 0));
        due("GROUP and POSITION may be others", x.whole(1), 1);
        due("as it was known", x.partOf(2, 1), 0);
        setRow(x, 5, partRow(0, 0, 3, 0, 0));
        due("another NUMBER", x.whole(2), 0);
        setRow(x, 5, partRow(0, 1, 2, 0, 0));
        due("another length", x.whole(2), 0);
        x.close();
        due("whole(1)", x.whole(1), CLOSED);

        MarkLog y = new MarkLog(20);
        partOfLength(y, 1);
        y.mark(1);
        y.keep(1);
        y.mark(1);
        int[] body = new int[32];
        body[0] = 5;
        body[1] = 200;
        setRow(y, 3, body);
        setRow(y, 2, partRow(0, 1, 1, 0, digest(body, 0, 32)));
        due("the PART is WHOLE", y.partOf(1, 4), 1);
        due("not with the DIGEST that the ENTRY tells", y.whole(1), 0);
        due("one that is not kept is", y.whole(2), 1);
        MarkLog z = new MarkLog(20);
        z.part(0, 0);
        setRows(z, 6, markRows(4, new long[] {1, 3, 0}));
        setRows(z, 10, markRows(5, new long[] {1, 2, 0}));
        setRows(z, 12, markRows(6, new long[] {1, 2, 0}, new long[] {3, 9, 0}));
        z.open();
        due("a PART that begins elsewhere", z.whole(4), 0);
        due("whole(5)", z.whole(5), 1);
        due("a PART that is not known", z.whole(6), 0);
        setRows(z, 10, markRows(5, new long[] {1, 2, 0}, new long[] {2, 2, 0}));
        due("not as it was found", z.whole(5), 0);
    }

    private static void marks() {
        MarkLog x = new MarkLog(30);
        due("marks(-1)", x.marks(NONE), 0);
        due("marks(0)", x.marks(0), NONE);
        x.part(0, 0);
        for (int k = 1; k <= 4; k++) x.mark(1);
        x.keep(4);
        x.keep(1);
        x.keep(3);
        due("marks(-1)", x.marks(NONE), 3);
        int[] all = {1, 3, 4, NONE};
        for (int k = 0; k < 4; k++) due("marks(" + k + ")", x.marks(k), all[k]);
        due("marks(-2)", x.marks(-2), NONE);
        due("marks(MIN)", x.marks(Integer.MIN_VALUE), NONE);
        due("marks(MAX)", x.marks(Integer.MAX_VALUE), NONE);
        x.open();
        for (int k = 0; k < 4; k++) due("marks(" + k + ")", x.marks(k), all[k]);
        x.close();
        due("marks(-1)", x.marks(NONE), CLOSED);
    }

    private static void markOf() {
        MarkLog x = new MarkLog(30);
        for (int k = 1; k <= 4; k++) x.part(0, 0);
        x.mark(3);
        x.mark(2);
        x.keep(1);
        for (int turn = 0; turn < 2; turn++) {
            due("markOf(1, -1)", x.markOf(1, NONE), 3);
            for (int k = 0; k < 3; k++) due("markOf(1, " + k + ")", x.markOf(1, k), 2 + k);
            due("markOf(1, 3)", x.markOf(1, 3), NONE);
            due("markOf(1, -2)", x.markOf(1, -2), NONE);
            due("markOf(1, MAX)", x.markOf(1, Integer.MAX_VALUE), NONE);
            due("markOf(9, -1)", x.markOf(9, NONE), NONE);
            due("markOf(2, 1)", x.markOf(2, 1), turn == 0 ? 4 : NONE);
            x.open();
        }
        x.close();
        due("markOf(1, 0)", x.markOf(1, 0), CLOSED);
    }

    private static void partOf() {
        MarkLog x = new MarkLog(30);
        feedRising(x, 5, 100);
        x.part(6, Long.MAX_VALUE);
        x.part(1, -5);
        x.mark(2);
        x.mark(1);
        x.keep(1);
        long[][] all = {{6, Long.MAX_VALUE, 100, 2, 1, 1}, {1, -5, 0, 7, 1, 2}};
        for (int p = 1; p <= 2; p++) {
            for (int what = 0; what < 6; what++) due("partOf(" + p + ", " + what + ")", x.partOf(p, what), all[p - 1][what]);
        }
        due("partOf(1, 6)", x.partOf(1, 6), BAD);
        due("partOf(1, -1)", x.partOf(1, -1), BAD);
        due("partOf(3, 6): BAD before NONE", x.partOf(3, 6), BAD);
        for (int p : new int[] {0, 3, -1, Integer.MIN_VALUE, Integer.MAX_VALUE}) due("partOf(" + p + ", 0)", x.partOf(p, 0), NONE);
        for (int i = 0; i < 32; i++) x.poke(2, i, 255);
        for (int what = 0; what < 6; what++) due("as it was known " + what, x.partOf(1, what), what == 4 ? 0 : all[0][what]);
        x.close();
        due("partOf(1, 6)", x.partOf(1, 6), CLOSED);
    }

    private static void partByte() {
        MarkLog x = new MarkLog(30);
        feedRising(x, 100, 155);
        x.part(6, 1);
        x.part(6, 1);
        for (int i = 0; i < 155; i++) due("partByte(1, " + i + ")", x.partByte(1, i), 100 + i);
        for (int i : new int[] {-1, 155, 156, Integer.MIN_VALUE, Integer.MAX_VALUE}) due("partByte(1, " + i + ")", x.partByte(1, i), NONE);
        due("partByte(2, 0)", x.partByte(2, 0), NONE);
        due("partByte(3, 0)", x.partByte(3, 0), NONE);
        due("partByte(0, 0)", x.partByte(0, 0), NONE);
        x.poke(4, 1, 255);
        due("as it stands there now", x.partByte(1, 31), 131 ^ 255);
        x.close();
        due("partByte(1, 0)", x.partByte(1, 0), CLOSED);
    }

    private static void named() {
        MarkLog x = new MarkLog(30);
        setRows(x, 6, markRows(4, new long[] {3, 3, 0}, new long[] {8, 3, 0}));
        x.open();
        due("one that is not known", x.named(3), 1);
        x.part(0, 0);
        x.mark(1);
        x.mark(1);
        x.keep(5);
        due("named(9)", x.named(9), 2);
        due("named(8)", x.named(8), 1);
        due("named(4)", x.named(4), 0);
        for (int p : new int[] {0, -1, Integer.MIN_VALUE, Integer.MAX_VALUE}) due("named(" + p + ")", x.named(p), 0);
        x.give(6);
        due("named(9)", x.named(9), 1);
        x.close();
        due("named(9)", x.named(9), CLOSED);
    }

    private static void badAt() {
        MarkLog x = oneMark();
        x.owner(0);
        due("badAt()", x.badAt(), NONE);
        int[] first = {0, 1, 2, 2, 2, 5, 6, 6};
        for (int row = 0; row < 20; row++) {
            for (int i = 0; i < 32; i += 31) {
                x.poke(row, i, 64);
                due("badAt() with row " + row + " byte " + i, x.badAt(), row < 8 ? first[row] : NONE);
                x.poke(row, i, 64);
            }
        }
        x.poke(7, 3, 1);
        x.poke(4, 3, 1);
        due("the least", x.badAt(), 2);
        x.poke(4, 3, 1);
        due("the MARK", x.badAt(), 6);
        x.poke(0, 3, 1);
        due("the HEAD", x.badAt(), 0);
        x.close();
        due("badAt()", x.badAt(), CLOSED);
        x.poke(0, 3, 1);
        x.open();
        due("a MARK that is not found is not known", x.badAt(), NONE);
        MarkLog y = new MarkLog(8);
        setRows(y, 2, markRows(1, new long[] {1, 2, 0}));
        y.open();
        due("a MARK without its PARTS is as it was found", y.badAt(), NONE);
        setRow(y, 1, head(0, 1));
        due("SERIAL 0 is not GOOD", y.badAt(), 1);
    }

    private static void poke() {
        MarkLog x = new MarkLog(4);
        int[][] bad = {{-1, 0, 1}, {4, 0, 1}, {0, -1, 1}, {0, 32, 1}, {0, 0, 0}, {0, 0, 256}, {0, 0, -1},
            {Integer.MAX_VALUE, 0, 1}, {Integer.MIN_VALUE, 0, 1}, {0, Integer.MAX_VALUE, 1}, {0, Integer.MIN_VALUE, 1},
            {134217728, 0, 1}, {0, 0, Integer.MIN_VALUE}};
        for (int[] b : bad) due("poke(" + b[0] + ", " + b[1] + ", " + b[2] + ")", x.poke(b[0], b[1], b[2]), BAD);
        for (int row = 0; row < 4; row++) due("nothing altered", isClear(x, row), true);
        due("poke(3, 31, 255)", x.poke(3, 31, 255), 255);
        due("poke(3, 31, 1)", x.poke(3, 31, 1), 254);
        due("byteAt(3, 31)", x.byteAt(3, 31), 254);
        due("bytes written", x.told(2), 0);
        x.cut(0);
        due("no power of the log's", x.poke(0, 0, 3), 3);
        x.close();
        due("CLOSED", x.poke(0, 0, 1), 2);
        due("told(0)", x.told(0), 0);
    }

    private static void byteAt() {
        MarkLog x = new MarkLog(4);
        int[][] bad = {{-1, 0}, {4, 0}, {0, -1}, {0, 32}, {Integer.MAX_VALUE, 0}, {Integer.MIN_VALUE, 0}, {0, Integer.MAX_VALUE}, {0, Integer.MIN_VALUE}};
        for (int[] b : bad) due("byteAt(" + b[0] + ", " + b[1] + ")", x.byteAt(b[0], b[1]), BAD);
        x.owner(0);
        due("byteAt(1, 0)", x.byteAt(1, 0), 4);
        due("byteAt(3, 31)", x.byteAt(3, 31), 0);
        x.close();
        due("byteAt(1, 0) CLOSED", x.byteAt(1, 0), 4);
        due("byteAt(4, 0) CLOSED", x.byteAt(4, 0), BAD);
    }

    private static void out() {
        MarkLog x = new MarkLog(20);
        x.part(3, 258);
        feedBytes(x, 200, 201);
        x.part(7, -1);
        x.mark(2);
        int[] want = savepointOf(2, 3, 0, 0, 0, 0, 0, 0, 1, 2, 0, 0, 7, 255, 255, 255, 255, 255, 255, 255, 255, 0, 2, 200, 201);
        for (int turn = 0; turn < 2; turn++) {
            due("out(1, -1)", x.out(1, NONE), want.length);
            for (int i = 0; i < want.length; i++) due("out(1, " + i + ")", x.out(1, i), want[i]);
            for (int i : new int[] {-2, want.length, Integer.MIN_VALUE, Integer.MAX_VALUE}) due("out(1, " + i + ")", x.out(1, i), NONE);
            x.keep(1);
        }
        due("out(2, 0)", x.out(2, 0), NONE);
        x.poke(4, 1, 1);
        due("out(1, -1)", x.out(1, NONE), BAD);
        due("out(1, 99): BAD, then NONE", x.out(1, 99), BAD);
        due("out(2, 0)", x.out(2, 0), NONE);
        x.close();
        due("out(1, 0)", x.out(1, 0), CLOSED);

        MarkLog y = new MarkLog(80);
        for (int k = 0; k < 12; k++) {
            feedRising(y, k, 155);
            y.part(k % 8, k);
        }
        y.mark(12);
        due("the longest", y.out(1, NONE), 2002);
        int[] all = new int[2002];
        for (int i = 0; i < 2002; i++) all[i] = y.out(1, i);
        int[] tail = new int[8];
        put(tail, 0, digest(all, 0, 1994), 8);
        for (int i = 0; i < 8; i++) due("its DIGEST", all[1994 + i], tail[i]);
    }

    private static void in() {
        MarkLog x = new MarkLog(20);
        x.part(3, 258);
        partOfLength(x, 35);
        x.mark(2);
        int[] all = savepoint(x, 1);
        MarkLog y = new MarkLog(20);
        y.part(0, 0);
        feedBytes(y, all);
        due("in()", y.in(), 1);
        due("the TAPE", y.wipe(), 0);
        due("markOf(1, -1)", y.markOf(1, NONE), 2);
        due("markOf(1, 0)", y.markOf(1, 0), 2);
        due("markOf(1, 1)", y.markOf(1, 1), 3);
        due("GROUP", y.partOf(2, 0), 3);
        due("POSITION", y.partOf(2, 1), 258);
        due("length", y.partOf(3, 2), 35);
        due("row", y.partOf(3, 3), 4);
        due("byte", y.partByte(3, 34), 35);
        due("not kept", y.told(8), 1);
        due("marks(-1)", y.marks(NONE), 0);
        due("bytes", y.told(2), 5 * 32);
        int[] again = savepoint(y, 1);
        for (int i = 0; i < all.length; i++) due("the same SAVEPOINT", again[i], all[i]);
        for (int i = 0; i < all.length; i++) {
            all[i] ^= 4;
            due("in() with byte " + i + " altered", in(y, all), BAD);
            all[i] ^= 4;
        }
        for (int n = 0; n < all.length; n++) due("in() of " + n + " bytes", in(y, java.util.Arrays.copyOf(all, n)), BAD);
        due("in() with one behind", in(y, java.util.Arrays.copyOf(all, all.length + 1)), BAD);
        due("the TAPE is read", y.wipe(), 0);
        due("nothing written", y.told(2), 5 * 32);
        y.close();
        feedBytes(y, all);
        due("in()", y.in(), CLOSED);
        due("the TAPE is read", y.wipe(), 0);
        feedBytes(y, all);
        due("in() once more", y.in(), CLOSED);
        y.open();
        due("the TAPE is read, also if it is OPEN again", y.in(), BAD);
        due("nothing written", y.told(2), 5 * 32);
        due("in() of what is fed again", in(y, all), 1);
    }

    private static void inRefused() {
        int[] one = {7, 0, 0, 0, 0, 0, 0, 0, 0, 0, 0};
        MarkLog x = new MarkLog(40);
        due("no PARTS", in(x, savepointOf(0)), BAD);
        due("13 PARTS", in(x, savepointOf(13, repeated(13, one))), BAD);
        due("12 PARTS", in(x, savepointOf(12, repeated(12, one))), 1);
        due("fewer than told", in(x, savepointOf(2, one)), BAD);
        due("more than told", in(x, savepointOf(1, repeated(2, one))), BAD);
        due("GROUP 8", in(x, savepointOf(1, 8, 0, 0, 0, 0, 0, 0, 0, 0, 0, 0)), BAD);
        int[] longest = new int[11 + 156];
        longest[10] = 155;
        due("length 155", in(x, savepointOf(1, java.util.Arrays.copyOf(longest, 166))), 2);
        longest[10] = 156;
        due("length 156", in(x, savepointOf(1, longest)), BAD);
        due("length 256", in(x, savepointOf(1, 0, 0, 0, 0, 0, 0, 0, 0, 0, 1, 0)), BAD);
        for (int k = 3; k <= 6; k++) due("in()", in(x, savepointOf(1, one)), k);
        due("six are not kept", in(x, savepointOf(1, one)), FULL);
        due("BAD before FULL", in(x, savepointOf(0)), BAD);

        MarkLog y = new MarkLog(6);
        int before = y.told(2);
        due("no room for the last", in(y, savepointOf(5, repeated(5, one))), FULL);
        due("nothing written", y.told(2), before);
        due("nothing known", y.told(4), 0);
        int[] two = java.util.Arrays.copyOf(one, 22 + 100);
        two[21] = 100;
        due("no room for the longer one", in(y, savepointOf(2, two)), FULL);
        due("nothing written", y.told(2), before);
        due("room for all", in(y, savepointOf(4, repeated(4, one))), 1);

        MarkLog z = new MarkLog(20);
        setRow(z, 10, partRow(0, 0, BILLION - 2, 0, 0));
        z.open();
        due("NUMBERS above", in(z, savepointOf(3, repeated(3, one))), FULL);
        due("NUMBERS up to the last", in(z, savepointOf(2, repeated(2, one))), 1);
        due("greatest", z.told(5), BILLION);
        MarkLog w = new MarkLog(20);
        setRows(w, 10, markRows(BILLION, new long[] {1, 2, 0}));
        w.open();
        due("NUMBER of a MARK above", in(w, savepointOf(1, one)), FULL);
    }

    private static void inLost() {
        int[] all = savepointOf(2, 1, 0, 0, 0, 0, 0, 0, 0, 1, 0, 1, 99, 2, 0, 0, 0, 0, 0, 0, 0, 2, 0, 0);
        for (int n = 0; n <= 96; n++) {
            MarkLog x = new MarkLog(8);
            x.cut(n);
            due("in() with " + n, in(x, all), n < 96 ? LOST : 1);
            due("the TAPE", x.wipe(), 0);
            due("bytes", x.told(2), n);
            x.open();
            due("PARTS with " + n, x.told(4), n < 64 ? 0 : n < 96 ? 1 : 2);
            due("no MARK", x.told(8), 0);
        }
    }

    private static void equal() {
        MarkLog x = new MarkLog(60);
        int[][] parts = {{1, 5, 9}, {2, 6, 9}, {1, 5, 9}, {2, 6, 9}, {3, 6, 9}, {2, 7, 9}, {2, 6, 8}};
        for (int[] p : parts) {
            x.feed(p[2], 1);
            x.part(p[0], p[1]);
            if (x.told(8) < 6 && x.told(4) > 1) x.mark(2);
        }
        due("equal(1, 1)", x.equal(1, 1), 1);
        due("equal(1, 3): PARTS 1 2 and 3 4", x.equal(1, 3), 1);
        due("equal(1, 2): the other way round", x.equal(1, 2), 0);
        x.keep(3);
        due("kept and not", x.equal(3, 1), 1);
        x.give(1);
        x.give(2);
        for (int k = 0; k < 2; k++) x.mark(1);
        due("equal(7, 8)", x.equal(7, 8), 1);
        due("another count", x.equal(7, 3), 0);
        due("equal(7, 99)", x.equal(7, 99), NONE);
        due("equal(99, 7)", x.equal(99, 7), NONE);
        due("equal(0, -1)", x.equal(0, -1), NONE);
        x.poke((int) x.partOf(3, 3), 3, 1);
        due("one is not WHOLE", x.equal(7, 3), BAD);
        due("one is not WHOLE", x.equal(3, 7), BAD);
        due("neither is", x.equal(3, 3), BAD);
        x.close();
        due("equal(7, 7)", x.equal(7, 7), CLOSED);
    }

    private static void equalDiffers() {
        int[][] other = {{3, 6, 9}, {2, 7, 9}, {2, 6, 8}};
        for (int[] p : other) {
            MarkLog x = new MarkLog(20);
            x.feed(9, 1);
            x.part(2, 6);
            x.mark(1);
            x.feed(p[2], 1);
            x.part(p[0], p[1]);
            x.mark(1);
            due("another GROUP, POSITION or byte", x.equal(1, 2), 0);
        }
    }

    private static void told() {
        MarkLog x = new MarkLog(30);
        for (int what : new int[] {-1, 17, Integer.MIN_VALUE, Integer.MAX_VALUE}) due("told(" + what + ")", x.told(what), BAD);
        partOfLength(x, 32);
        x.part(0, 0);
        x.mark(2);
        x.mark(1);
        x.mark(1);
        x.keep(1);
        for (int g = 0; g < 8; g++) for (int k = 0; k <= g; k++) x.owner(g);
        int[] all = {1, 30, 32 * (3 + 1 + 2 + 36), 22, 2, 2, 3, 36, 2, 1, 2, 3, 4, 5, 6, 7, 8};
        for (int what = 0; what < all.length; what++) due("told(" + what + ")", x.told(what), all[what]);
        x.close();
        for (int what = 0; what < all.length; what++) due("told(" + what + ") CLOSED", x.told(what), what == 0 || what > 2 ? 0 : all[what]);
        due("told(17) CLOSED", x.told(17), BAD);
    }

    public static void main(String[] args) {
        promise(1); constants(); newObject();
        promise(2); feed();
        promise(3); wipe();
        promise(4); part(); writtenAfterAnother(); manyParts(); partRefused(); partPlaces(); partLost();
        promise(5); mark();
        promise(6); keep(); manyKept(); keepLost();
        promise(7); give();
        promise(8); owner(); ownerLost();
        promise(9); drop(); dropLeaves(); dropLost();
        promise(10); cut();
        promise(11); close();
        promise(12); openFinds(); openHeads(); openParts(); openMarks();
        promise(13); usable();
        promise(14); whole();
        promise(15); marks();
        promise(16); markOf();
        promise(17); partOf();
        promise(18); partByte();
        promise(19); named();
        promise(20); badAt();
        promise(21); poke();
        promise(22); byteAt();
        promise(23); out();
        promise(24); in(); inRefused(); inLost();
        promise(25); equal(); equalDiffers();
        promise(26); told();
        end("all promises hold");
    }
}

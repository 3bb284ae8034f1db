/**
 * The log of marks of a running job, on a medium of rows that may lose power at any byte
 * and whose rows somebody else may alter. No call makes an object: all room is made with the log.
 */
public final class MarkLog {
    public static final int NONE = -1, BAD = -2, CLOSED = -3, FULL = -4, LOST = -5;

    private static final int ROW = 32, SUM_AT = 24, SUM_BYTES = 8;
    private static final int FEWEST_ROWS = 4, MOST_ROWS = 512, HEADS = 2;
    private static final int HEAD_ROW = 4, PART_ROW = 1, MARK_ROW = 2, BODY_ROW = 5, ENTRY_ROW = 6;
    private static final int SAVEPOINT = 77;

    private static final int GROUPS = 8, LAST_OWNER = 65535, LAST_NUMBER = 1000000000;
    private static final int MOST_BYTES = 155, BODY_BYTES = 31;
    private static final int MOST_PARTS = 12, MOST_MADE = 6;
    private static final int PARTS_IN_ENTRY = 2, ENTRY_BYTES = 14;
    private static final int MOST_POWER = 20000;

    private static final int TAPE_ROOM = 2000;
    private static final int PART_INTRO = 11, MARK_INTRO = 2;
    private static final int SAVEPOINT_ROOM = MARK_INTRO + MOST_PARTS * (PART_INTRO + MOST_BYTES) + SUM_BYTES;
    private static final int IMAGE_ROOM = ROW * (1 + MOST_PARTS / PARTS_IN_ENTRY);

    private static final int LAST_ASKED_OF_PART = 5, FIRST_OWNER_TOLD = 9;
    private static final long DIGEST_FACTOR = 0xC2B2AE3D27D4EB4FL;

    private final Medium medium;
    private final Bytes tape, image, savepoint, otherSavepoint;
    private final Room room, trial;
    private final Parts parts;
    private final Marks kept, made;
    private final int[] owners;
    private int serial, greatestPart, greatestMark;
    private boolean isOpen;

    public MarkLog(int rows) {
        medium = new Medium(rows);
        tape = new Bytes(TAPE_ROOM);
        image = new Bytes(IMAGE_ROOM);
        savepoint = new Bytes(SAVEPOINT_ROOM);
        otherSavepoint = new Bytes(SAVEPOINT_ROOM);
        room = new Room(medium.rows());
        trial = new Room(medium.rows());
        parts = new Parts(medium.rows());
        kept = new Marks(medium.rows() / 2);
        made = new Marks(MOST_MADE);
        owners = new int[GROUPS];
        isOpen = true;
    }

    // ---- the TAPE

    public int feed(long bytes, int n) {
        if (n < 1 || n > 8) return BAD;
        if (tape.size() + n > TAPE_ROOM) return FULL;
        for (int k = 0; k < n; k++) tape.add(bytes >>> (8 * k), 1);
        return tape.size();
    }

    public int wipe() {
        int had = tape.size();
        tape.clear();
        return had;
    }

    // ---- what writes

    public int part(int group, long position) {
        // the TAPE is read whatever is answered, so no answer comes before it is empty
        int answer = isOpen ? writeTape(group, position) : CLOSED;
        tape.clear();
        return answer;
    }

    public int mark(int parts) {
        if (!isOpen) return CLOSED;
        if (parts < 1 || parts > MOST_PARTS) return BAD;
        if (this.parts.size() < parts) return NONE;
        if (made.size() >= MOST_MADE || greatestMark >= LAST_NUMBER) return FULL;
        return makeMark(parts);
    }

    public int keep(int mark) {
        if (!isOpen) return CLOSED;
        int index = made.find(mark);
        if (index == NONE) return NONE;
        int count = made.countAt(index);
        int row = room.firstRun(rowsOfMark(count));
        if (row == NONE) return FULL;
        long digest = drawMark(index);
        if (!writeImage(row, rowsOfMark(count))) return LOST;
        int place = kept.add(mark, count, row, digest);
        for (int k = 0; k < count; k++) kept.setPart(place, k, made.partAt(index, k));
        made.remove(index);
        return 1;
    }

    public int give(int mark) {
        if (!isOpen) return CLOSED;
        int index = made.find(mark);
        if (index == NONE) return NONE;
        made.remove(index);
        return 1;
    }

    public int owner(int group) {
        if (!isOpen) return CLOSED;
        if (!isGroup(group)) return BAD;
        if (owners[group] >= LAST_OWNER || serial >= LAST_NUMBER) return FULL;
        owners[group]++;
        serial++;
        drawHead();
        return writeImage(serial % HEADS, 1) ? owners[group] : LOST;
    }

    public int drop(int count) {
        if (!isOpen) return CLOSED;
        if (count < 0) return BAD;
        int limit = kept.greatestPart();
        if (!dropMarks(kept.size() - count)) return LOST;
        int dropped = dropParts(limit);
        return isOpen ? dropped : LOST;
    }

    // ---- power, closing, opening

    public boolean cut(int n) {
        if (n < NONE || n > MOST_POWER) return false;
        medium.setPower(n);
        return true;
    }

    public boolean close() {
        boolean was = isOpen;
        isOpen = false;
        return was;
    }

    public int open() {
        forget();
        readHeads();
        int step = 1;
        for (int row = HEADS; row < medium.rows(); row += step) step = Math.max(1, learnRow(row));
        isOpen = true;
        return kept.size();
    }

    // ---- what is asked

    public int usable() {
        if (!isOpen) return CLOSED;
        for (int index = kept.size() - 1; index >= 0; index--) {
            if (isKeptWhole(index)) return kept.numberAt(index);
        }
        return NONE;
    }

    public int whole(int mark) {
        if (!isOpen) return CLOSED;
        if (tableOf(mark) == null) return NONE;
        return isMarkWhole(mark) ? 1 : 0;
    }

    public int marks(int k) {
        if (!isOpen) return CLOSED;
        if (k == NONE) return kept.size();
        return kept.numberAt(k);
    }

    public int markOf(int mark, int k) {
        if (!isOpen) return CLOSED;
        Marks table = tableOf(mark);
        if (table == null) return NONE;
        int index = table.find(mark);
        return k == NONE ? table.countAt(index) : table.partAt(index, k);
    }

    public long partOf(int part, int what) {
        if (!isOpen) return CLOSED;
        if (what < 0 || what > LAST_ASKED_OF_PART) return BAD;
        int index = parts.find(part);
        if (index == NONE) return NONE;
        switch (what) {
            case 0: return parts.groupAt(index);
            case 1: return parts.positionAt(index);
            case 2: return parts.lengthAt(index);
            case 3: return parts.rowAt(index);
            case 4: return isPartWhole(index) ? 1 : 0;
            default: return countNaming(part);
        }
    }

    public int partByte(int part, int i) {
        if (!isOpen) return CLOSED;
        int index = parts.find(part);
        if (index == NONE || i < 0 || i >= parts.lengthAt(index)) return NONE;
        return byteOfPart(index, i);
    }

    public int named(int part) {
        return isOpen ? countNaming(part) : CLOSED;
    }

    public int badAt() {
        if (!isOpen) return CLOSED;
        for (int row = 0; row < HEADS; row++) {
            if (!medium.isClear(row) && !isGoodHead(row)) return row;
        }
        int least = medium.rows();
        for (int index = 0; index < parts.size(); index++) {
            if (parts.rowAt(index) < least && !isPartWhole(index)) least = parts.rowAt(index);
        }
        for (int index = 0; index < kept.size(); index++) {
            if (kept.rowAt(index) < least && !isKeptAsFound(index)) least = kept.rowAt(index);
        }
        return least < medium.rows() ? least : NONE;
    }

    public int poke(int row, int i, int mask) {
        if (!medium.has(row, i) || mask < 1 || mask > 255) return BAD;
        medium.alter(row, i, mask);
        return medium.at(row, i);
    }

    public int byteAt(int row, int i) {
        return medium.has(row, i) ? medium.at(row, i) : BAD;
    }

    public int told(int what) {
        if (what < 0 || what >= FIRST_OWNER_TOLD + GROUPS) return BAD;
        if (what == 0) return isOpen ? 1 : 0;
        if (what == 1) return medium.rows();
        if (what == 2) return medium.written();
        return isOpen ? toldOpen(what) : 0;
    }

    // ---- savepoints

    public int out(int mark, int i) {
        if (!isOpen) return CLOSED;
        if (tableOf(mark) == null) return NONE;
        if (!isMarkWhole(mark)) return BAD;
        drawSavepoint(savepoint, mark);
        if (i == NONE) return savepoint.size();
        return i >= 0 && i < savepoint.size() ? savepoint.at(i) : NONE;
    }

    public int in() {
        int count = tape.at(1);
        int answer;
        // the TAPE is read whatever is answered, so no answer comes before it is empty
        if (!isOpen) answer = CLOSED;
        else if (!isSavepointOnTape()) answer = BAD;
        else if (!isRoomForSavepoint(count)) answer = FULL;
        else answer = writeSavepoint(count);
        tape.clear();
        return answer;
    }

    public int equal(int a, int b) {
        if (!isOpen) return CLOSED;
        if (tableOf(a) == null || tableOf(b) == null) return NONE;
        if (!isMarkWhole(a) || !isMarkWhole(b)) return BAD;
        // a SAVEPOINT tells all of a MARK but the NUMBERS
        drawSavepoint(savepoint, a);
        drawSavepoint(otherSavepoint, b);
        return savepoint.isSame(otherSavepoint) ? 1 : 0;
    }

    // ---- sizes and numbers

    private static long digestStep(long digest, int oneByte) {
        long mixed = digest ^ oneByte;
        return ((mixed << 53) | (mixed >>> 11)) * DIGEST_FACTOR;
    }

    private static boolean isGroup(int group) {
        return group >= 0 && group < GROUPS;
    }

    private static boolean isNumber(long number) {
        return number >= 1 && number <= LAST_NUMBER;
    }

    private static int bodiesOf(int length) {
        return (length + BODY_BYTES - 1) / BODY_BYTES;
    }

    private static int rowsOfPart(int length) {
        return 1 + bodiesOf(length);
    }

    private static int entriesOf(int count) {
        return (count + PARTS_IN_ENTRY - 1) / PARTS_IN_ENTRY;
    }

    private static int rowsOfMark(int count) {
        return 1 + entriesOf(count);
    }

    private static int entryRow(int first, int k) {
        return first + 1 + k / PARTS_IN_ENTRY;
    }

    private static int entryByte(int k) {
        return 1 + ENTRY_BYTES * (k % PARTS_IN_ENTRY);
    }

    /** The first index whose number is not below the one looked for, in numbers that rise. */
    private static int placeOf(int[] numbers, int size, int number) {
        int low = 0;
        int high = Math.min(size, numbers.length);
        while (low < high) {
            int middle = (low + high) >>> 1;
            if (numbers[middle] < number) low = middle + 1;
            else high = middle;
        }
        return low;
    }

    // ---- writing

    private int writeTape(int group, long position) {
        int length = tape.size();
        if (!isGroup(group) || length > MOST_BYTES) return BAD;
        if (greatestPart >= LAST_NUMBER) return FULL;
        int row = room.firstRun(rowsOfPart(length));
        if (row == NONE) return FULL;
        return writePart(row, group, position, 0, length) ? greatestPart : LOST;
    }

    /** The bytes of the PART are those on the TAPE from there on. */
    private boolean writePart(int row, int group, long position, int from, int length) {
        int number = greatestPart + 1;
        drawPart(number, group, position, from, length);
        if (!writeImage(row, rowsOfPart(length))) return false;
        parts.add(number, group, length, row, position);
        greatestPart = number;
        return true;
    }

    private void drawPart(int number, int group, long position, int from, int length) {
        image.clear();
        for (int k = 1; k <= bodiesOf(length); k++) image.put(k * ROW, BODY_ROW, 1);
        for (int i = 0; i < length; i++) {
            image.put(ROW * (1 + i / BODY_BYTES) + 1 + i % BODY_BYTES, tape.at(from + i), 1);
        }
        image.put(0, PART_ROW, 1);
        image.put(1, group, 1);
        image.put(2, length, 2);
        image.put(4, number, 4);
        image.put(8, position, 8);
        image.put(16, image.digest(ROW, ROW * rowsOfPart(length)), 8);
        drawSum();
    }

    /** Answers the DIGEST of the ENTRIES. */
    private long drawMark(int index) {
        int count = made.countAt(index);
        image.clear();
        for (int k = 0; k < count; k++) drawEntry(k, made.partAt(index, k));
        long digest = image.digest(ROW, ROW * rowsOfMark(count));
        image.put(0, MARK_ROW, 1);
        image.put(1, count, 1);
        image.put(4, made.numberAt(index), 4);
        image.put(8, digest, 8);
        drawSum();
        return digest;
    }

    private void drawEntry(int k, int part) {
        int row = parts.rowAt(parts.find(part));
        int at = ROW * entryRow(0, k);
        image.put(at, ENTRY_ROW, 1);
        at += entryByte(k);
        image.put(at, part, 4);
        image.put(at + 4, row, 2);
        image.put(at + 6, medium.number(row, 16, 8), 8);
    }

    private void drawHead() {
        image.clear();
        image.put(0, HEAD_ROW, 1);
        image.put(4, serial, 4);
        for (int group = 0; group < GROUPS; group++) image.put(8 + 2 * group, owners[group], 2);
        drawSum();
    }

    private void drawSum() {
        image.put(SUM_AT, image.digest(0, SUM_AT), SUM_BYTES);
    }

    /** The first row comes last: it alone makes the others count. */
    private boolean writeImage(int row, int count) {
        for (int k = 1; k < count && isOpen; k++) isOpen = medium.write(row + k, image, k * ROW);
        if (isOpen) isOpen = medium.write(row, image, 0);
        room.take(row, count);
        return isOpen;
    }

    private boolean takeBack(int row, int count) {
        for (int k = 0; k < count && isOpen; k++) isOpen = medium.erase(row + k);
        room.free(row, count);
        return isOpen;
    }

    // ---- marks made and dropped

    private int makeMark(int count) {
        greatestMark++;
        int place = made.add(greatestMark, count, NONE, 0);
        int first = parts.size() - count;
        for (int k = 0; k < count; k++) made.setPart(place, k, parts.numberAt(first + k));
        return greatestMark;
    }

    private boolean dropMarks(int count) {
        for (int index = 0; index < count && isOpen; index++) {
            takeBack(kept.rowAt(index), rowsOfMark(kept.countAt(index)));
        }
        kept.removeFirst(count);
        return isOpen;
    }

    private int dropParts(int limit) {
        int stay = 0;
        int dropped = 0;
        for (int index = 0; index < parts.size() && isOpen; index++) {
            int number = parts.numberAt(index);
            if (number <= limit && countNaming(number) == 0) {
                takeBack(parts.rowAt(index), rowsOfPart(parts.lengthAt(index)));
                dropped++;
            } else {
                parts.move(index, stay);
                stay++;
            }
        }
        parts.shorten(stay);
        return dropped;
    }

    // ---- opening

    private void forget() {
        parts.shorten(0);
        kept.removeFirst(kept.size());
        made.removeFirst(made.size());
        room.free(0, medium.rows());
        greatestPart = 0;
        greatestMark = 0;
    }

    private void readHeads() {
        int row = headThatCounts();
        serial = row == NONE ? 0 : (int) medium.number(row, 4, 4);
        for (int group = 0; group < GROUPS; group++) {
            owners[group] = row == NONE ? 0 : (int) medium.number(row, 8 + 2 * group, 2);
        }
    }

    private int headThatCounts() {
        if (!isGoodHead(0)) return isGoodHead(1) ? 1 : NONE;
        if (!isGoodHead(1)) return 0;
        return medium.number(1, 4, 4) > medium.number(0, 4, 4) ? 1 : 0;
    }

    private boolean isGoodHead(int row) {
        return medium.at(row, 0) == HEAD_ROW && medium.isSumRight(row) && isNumber(medium.number(row, 4, 4));
    }

    /** Answers how many rows are done with. */
    private int learnRow(int row) {
        if (isPartThere(row)) return learnPart(row);
        if (isMarkThere(row)) return learnMark(row);
        return 1;
    }

    private boolean isPartThere(int row) {
        if (medium.at(row, 0) != PART_ROW || !medium.isSumRight(row)) return false;
        int length = (int) medium.number(row, 2, 2);
        return isGroup(medium.at(row, 1)) && length <= MOST_BYTES && isNumber(medium.number(row, 4, 4))
            && row + rowsOfPart(length) <= medium.rows();
    }

    private int learnPart(int row) {
        int number = (int) medium.number(row, 4, 4);
        int length = (int) medium.number(row, 2, 2);
        if (parts.find(number) == NONE) {
            parts.add(number, medium.at(row, 1), length, row, medium.number(row, 8, 8));
            room.take(row, rowsOfPart(length));
            greatestPart = Math.max(greatestPart, number);
        }
        return rowsOfPart(length);
    }

    private boolean isMarkThere(int row) {
        if (medium.at(row, 0) != MARK_ROW || !medium.isSumRight(row)) return false;
        int count = medium.at(row, 1);
        return count >= 1 && count <= MOST_PARTS && isNumber(medium.number(row, 4, 4))
            && row + rowsOfMark(count) <= medium.rows()
            && medium.number(row, 8, 8) == medium.digest(row + 1, entriesOf(count))
            && areEntriesRising(row, count);
    }

    private boolean areEntriesRising(int row, int count) {
        long before = 0;
        for (int k = 0; k < count; k++) {
            long number = medium.number(entryRow(row, k), entryByte(k), 4);
            if (number <= before || !isNumber(number)) return false;
            before = number;
        }
        return true;
    }

    private int learnMark(int row) {
        int number = (int) medium.number(row, 4, 4);
        int count = medium.at(row, 1);
        if (kept.find(number) == NONE) {
            int place = kept.add(number, count, row, medium.number(row, 8, 8));
            for (int k = 0; k < count; k++) {
                int part = (int) medium.number(entryRow(row, k), entryByte(k), 4);
                kept.setPart(place, k, part);
                greatestPart = Math.max(greatestPart, part);
            }
            room.take(row, rowsOfMark(count));
            greatestMark = Math.max(greatestMark, number);
        }
        return rowsOfMark(count);
    }

    // ---- what is known, and what stands there now

    private Marks tableOf(int mark) {
        if (kept.find(mark) != NONE) return kept;
        if (made.find(mark) != NONE) return made;
        return null;
    }

    private int countNaming(int part) {
        return kept.countNaming(part) + made.countNaming(part);
    }

    private int byteOfPart(int index, int i) {
        return medium.at(parts.rowAt(index) + 1 + i / BODY_BYTES, 1 + i % BODY_BYTES);
    }

    private boolean isPartWhole(int index) {
        int row = parts.rowAt(index);
        int length = parts.lengthAt(index);
        return medium.at(row, 0) == PART_ROW && medium.isSumRight(row)
            && medium.number(row, 4, 4) == parts.numberAt(index)
            && medium.number(row, 2, 2) == length
            && medium.number(row, 16, 8) == medium.digest(row + 1, bodiesOf(length));
    }

    private boolean isMarkWhole(int mark) {
        int index = kept.find(mark);
        if (index != NONE) return isKeptWhole(index);
        index = made.find(mark);
        return index != NONE && isMadeWhole(index);
    }

    private boolean isMadeWhole(int index) {
        for (int k = 0; k < made.countAt(index); k++) {
            int part = parts.find(made.partAt(index, k));
            if (part == NONE || !isPartWhole(part)) return false;
        }
        return true;
    }

    private boolean isKeptWhole(int index) {
        if (!isKeptAsFound(index)) return false;
        int first = kept.rowAt(index);
        for (int k = 0; k < kept.countAt(index); k++) {
            int part = parts.find(kept.partAt(index, k));
            if (part == NONE || !isEntryRight(first, k, part) || !isPartWhole(part)) return false;
        }
        return true;
    }

    private boolean isKeptAsFound(int index) {
        int row = kept.rowAt(index);
        int count = kept.countAt(index);
        long digest = kept.digestAt(index);
        return medium.at(row, 0) == MARK_ROW && medium.isSumRight(row)
            && medium.number(row, 4, 4) == kept.numberAt(index)
            && medium.at(row, 1) == count
            && medium.number(row, 8, 8) == digest
            && medium.digest(row + 1, entriesOf(count)) == digest;
    }

    private boolean isEntryRight(int first, int k, int part) {
        int row = entryRow(first, k);
        int at = entryByte(k);
        int partRow = parts.rowAt(part);
        return medium.number(row, at + 4, 2) == partRow
            && medium.number(row, at + 6, 8) == medium.number(partRow, 16, 8);
    }

    private int toldOpen(int what) {
        switch (what) {
            case 3: return room.countFree();
            case 4: return parts.size();
            case 5: return greatestPart;
            case 6: return greatestMark;
            case 7: return serial;
            case 8: return made.size();
            default: break;
        }
        int group = what - FIRST_OWNER_TOLD;
        return isGroup(group) ? owners[group] : BAD;
    }

    // ---- savepoints out and in

    private void drawSavepoint(Bytes target, int mark) {
        target.clear();
        Marks table = tableOf(mark);
        if (table == null) return;
        int index = table.find(mark);
        int count = table.countAt(index);
        target.add(SAVEPOINT, 1);
        target.add(count, 1);
        for (int k = 0; k < count; k++) drawPartOut(target, parts.find(table.partAt(index, k)));
        target.add(target.digest(0, target.size()), SUM_BYTES);
    }

    private void drawPartOut(Bytes target, int index) {
        int length = parts.lengthAt(index);
        target.add(parts.groupAt(index), 1);
        target.add(parts.positionAt(index), 8);
        target.add(length, 2);
        for (int i = 0; i < length; i++) target.add(byteOfPart(index, i), 1);
    }

    private boolean isSavepointOnTape() {
        int count = tape.at(1);
        if (tape.at(0) != SAVEPOINT || count < 1 || count > MOST_PARTS) return false;
        int at = MARK_INTRO;
        for (int k = 0; k < count; k++) {
            if (!isPartOnTape(at)) return false;
            at = behindPart(at);
        }
        return at + SUM_BYTES == tape.size() && tape.number(at, SUM_BYTES) == tape.digest(0, at);
    }

    private boolean isPartOnTape(int at) {
        return at + PART_INTRO <= tape.size() && isGroup(tape.at(at)) && lengthOnTape(at) <= MOST_BYTES
            && behindPart(at) <= tape.size();
    }

    private int lengthOnTape(int at) {
        return (int) tape.number(at + 9, 2);
    }

    private int behindPart(int at) {
        return at + PART_INTRO + lengthOnTape(at);
    }

    private boolean isRoomForSavepoint(int count) {
        if (made.size() >= MOST_MADE || greatestMark >= LAST_NUMBER) return false;
        if (greatestPart > LAST_NUMBER - count) return false;
        // each PART takes its rows from what those before it leave
        trial.copyFrom(room);
        int at = MARK_INTRO;
        for (int k = 0; k < count; k++) {
            int rows = rowsOfPart(lengthOnTape(at));
            int row = trial.firstRun(rows);
            if (row == NONE) return false;
            trial.take(row, rows);
            at = behindPart(at);
        }
        return true;
    }

    private int writeSavepoint(int count) {
        int at = MARK_INTRO;
        for (int k = 0; k < count && isOpen; k++) {
            int length = lengthOnTape(at);
            int row = room.firstRun(rowsOfPart(length));
            writePart(row, tape.at(at), tape.number(at + 1, 8), at + PART_INTRO, length);
            at = behindPart(at);
        }
        // the PARTS just written have the greatest NUMBERS
        return isOpen ? makeMark(count) : LOST;
    }

    /** The rows themselves, the power that writes them, and nothing of what they mean. */
    private static final class Medium {
        private final int rows;
        private final byte[] bytes;
        private int power, written;

        Medium(int rows) {
            this.rows = Math.max(FEWEST_ROWS, Math.min(MOST_ROWS, rows));
            bytes = new byte[this.rows * ROW];
            power = NONE;
        }

        int rows() {
            return rows;
        }

        int written() {
            return written;
        }

        void setPower(int bytesMore) {
            power = bytesMore;
        }

        boolean has(int row, int i) {
            return row >= 0 && row < rows && i >= 0 && i < ROW;
        }

        int at(int row, int i) {
            return has(row, i) ? bytes[row * ROW + i] & 255 : 0;
        }

        long number(int row, int i, int size) {
            long number = 0;
            for (int k = 0; k < size; k++) number = (number << 8) | at(row, i + k);
            return number;
        }

        void alter(int row, int i, int mask) {
            if (has(row, i)) bytes[row * ROW + i] ^= (byte) mask;
        }

        boolean isClear(int row) {
            for (int i = 0; i < ROW; i++) {
                if (at(row, i) != 0) return false;
            }
            return true;
        }

        long digest(int first, int count) {
            long digest = 0;
            for (int row = first; row < first + count; row++) {
                for (int i = 0; i < ROW; i++) digest = digestStep(digest, at(row, i));
            }
            return digest;
        }

        boolean isSumRight(int row) {
            long digest = 0;
            for (int i = 0; i < SUM_AT; i++) digest = digestStep(digest, at(row, i));
            return number(row, SUM_AT, SUM_BYTES) == digest;
        }

        /** Answers whether power stayed. */
        boolean write(int row, Bytes source, int from) {
            for (int i = 0; i < ROW; i++) {
                if (!writeByte(row, i, source.at(from + i))) return false;
            }
            return true;
        }

        boolean erase(int row) {
            for (int i = 0; i < ROW; i++) {
                if (!writeByte(row, i, 0)) return false;
            }
            return true;
        }

        private boolean writeByte(int row, int i, int value) {
            if (power == 0) {
                // power that went is there again when the log is opened
                power = NONE;
                return false;
            }
            if (power > 0) power--;
            if (has(row, i)) bytes[row * ROW + i] = (byte) value;
            written++;
            return true;
        }
    }

    /** Bytes in a room of a fixed size; numbers have their highest byte first. */
    private static final class Bytes {
        private final byte[] bytes;
        private int size;

        Bytes(int most) {
            bytes = new byte[Math.max(0, most)];
        }

        int size() {
            return size;
        }

        /** What is put later may leave gaps, and these are to be 0. */
        void clear() {
            for (int i = 0; i < size && i < bytes.length; i++) bytes[i] = 0;
            size = 0;
        }

        int at(int i) {
            return i >= 0 && i < size && i < bytes.length ? bytes[i] & 255 : 0;
        }

        long number(int i, int count) {
            long number = 0;
            for (int k = 0; k < count; k++) number = (number << 8) | at(i + k);
            return number;
        }

        void add(long number, int count) {
            put(size, number, count);
        }

        void put(int i, long number, int count) {
            for (int k = 0; k < count; k++) putByte(i + k, number >>> (8 * (count - 1 - k)));
        }

        private void putByte(int i, long value) {
            if (i < 0 || i >= bytes.length) return;
            bytes[i] = (byte) value;
            size = Math.max(size, i + 1);
        }

        long digest(int from, int behind) {
            long digest = 0;
            for (int i = from; i < behind; i++) digest = digestStep(digest, at(i));
            return digest;
        }

        boolean isSame(Bytes other) {
            if (other == null || other.size != size) return false;
            for (int i = 0; i < size; i++) {
                if (at(i) != other.at(i)) return false;
            }
            return true;
        }
    }

    /** Which rows are FREE; those of the HEADS never are. */
    private static final class Room {
        private final boolean[] taken;

        Room(int rows) {
            taken = new boolean[Math.max(0, rows)];
        }

        int firstRun(int count) {
            int run = 0;
            for (int row = HEADS; row < taken.length; row++) {
                run = taken[row] ? 0 : run + 1;
                if (run == count) return row - count + 1;
            }
            return NONE;
        }

        int countFree() {
            int free = 0;
            for (int row = HEADS; row < taken.length; row++) {
                if (!taken[row]) free++;
            }
            return free;
        }

        void take(int first, int count) {
            set(first, count, true);
        }

        void free(int first, int count) {
            set(first, count, false);
        }

        private void set(int first, int count, boolean value) {
            for (int k = 0; k < count; k++) {
                int row = first + k;
                if (row >= 0 && row < taken.length) taken[row] = value;
            }
        }

        void copyFrom(Room other) {
            if (other == null) return;
            for (int row = 0; row < taken.length && row < other.taken.length; row++) taken[row] = other.taken[row];
        }
    }

    /** The PARTS that are known, by NUMBERS. */
    private static final class Parts {
        private final int[] numbers, groups, lengths, rows;
        private final long[] positions;
        private int size;

        Parts(int most) {
            int length = Math.max(0, most);
            numbers = new int[length];
            groups = new int[length];
            lengths = new int[length];
            rows = new int[length];
            positions = new long[length];
        }

        int size() {
            return size;
        }

        int find(int number) {
            int place = placeOf(numbers, size, number);
            return numberAt(place) == number && place < size ? place : NONE;
        }

        int numberAt(int index) {
            return has(index) ? numbers[index] : NONE;
        }

        int groupAt(int index) {
            return has(index) ? groups[index] : NONE;
        }

        int lengthAt(int index) {
            return has(index) ? lengths[index] : 0;
        }

        int rowAt(int index) {
            return has(index) ? rows[index] : NONE;
        }

        long positionAt(int index) {
            return has(index) ? positions[index] : NONE;
        }

        void add(int number, int group, int length, int row, long position) {
            if (size >= numbers.length) return;
            int place = placeOf(numbers, size, number);
            size++;
            for (int index = size - 1; index > place; index--) move(index - 1, index);
            if (!has(place)) return;
            numbers[place] = number;
            groups[place] = group;
            lengths[place] = length;
            rows[place] = row;
            positions[place] = position;
        }

        void move(int from, int to) {
            if (!has(from) || !has(to)) return;
            numbers[to] = numbers[from];
            groups[to] = groups[from];
            lengths[to] = lengths[from];
            rows[to] = rows[from];
            positions[to] = positions[from];
        }

        void shorten(int length) {
            size = Math.max(0, Math.min(size, length));
        }

        private boolean has(int index) {
            return index >= 0 && index < size && index < numbers.length;
        }
    }

    /** MARKS by NUMBERS, each with the NUMBERS of its PARTS. */
    private static final class Marks {
        private final int[] numbers, counts, rows, partNumbers;
        private final long[] digests;
        private int size;

        Marks(int most) {
            int length = Math.max(0, most);
            numbers = new int[length];
            counts = new int[length];
            rows = new int[length];
            digests = new long[length];
            partNumbers = new int[length * MOST_PARTS];
        }

        int size() {
            return size;
        }

        int find(int number) {
            int place = placeOf(numbers, size, number);
            return numberAt(place) == number && place < size ? place : NONE;
        }

        int numberAt(int index) {
            return has(index) ? numbers[index] : NONE;
        }

        int countAt(int index) {
            return has(index) ? counts[index] : 0;
        }

        int rowAt(int index) {
            return has(index) ? rows[index] : NONE;
        }

        long digestAt(int index) {
            return has(index) ? digests[index] : 0;
        }

        int partAt(int index, int k) {
            return k >= 0 && k < countAt(index) ? partNumbers[index * MOST_PARTS + k] : NONE;
        }

        void setPart(int index, int k, int part) {
            if (k >= 0 && k < countAt(index)) partNumbers[index * MOST_PARTS + k] = part;
        }

        /** Answers where it stands now. */
        int add(int number, int count, int row, long digest) {
            if (size >= numbers.length) return NONE;
            int place = placeOf(numbers, size, number);
            size++;
            for (int index = size - 1; index > place; index--) move(index - 1, index);
            if (!has(place)) return NONE;
            numbers[place] = number;
            counts[place] = Math.max(0, Math.min(MOST_PARTS, count));
            rows[place] = row;
            digests[place] = digest;
            return place;
        }

        void remove(int index) {
            if (!has(index)) return;
            for (int next = index + 1; next < size; next++) move(next, next - 1);
            size--;
        }

        void removeFirst(int count) {
            if (count <= 0) return;
            for (int index = count; index < size; index++) move(index, index - count);
            size = Math.max(0, size - count);
        }

        int countNaming(int part) {
            int naming = 0;
            for (int index = 0; index < size; index++) {
                if (isNaming(index, part)) naming++;
            }
            return naming;
        }

        private boolean isNaming(int index, int part) {
            for (int k = 0; k < countAt(index); k++) {
                if (partAt(index, k) == part) return true;
            }
            return false;
        }

        /** The greatest NUMBER of a PART that any of them names, 0 without any. */
        int greatestPart() {
            int greatest = 0;
            for (int index = 0; index < size; index++) {
                greatest = Math.max(greatest, partAt(index, countAt(index) - 1));
            }
            return greatest;
        }

        private void move(int from, int to) {
            if (!has(from) || !has(to)) return;
            numbers[to] = numbers[from];
            counts[to] = counts[from];
            rows[to] = rows[from];
            digests[to] = digests[from];
            for (int k = 0; k < counts[from]; k++) {
                partNumbers[to * MOST_PARTS + k] = partNumbers[from * MOST_PARTS + k];
            }
        }

        private boolean has(int index) {
            return index >= 0 && index < size && index < numbers.length;
        }
    }
}

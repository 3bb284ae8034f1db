import java.util.function.Supplier;
import java.util.function.ToLongFunction;

/** The paragraph "Answers": which comes first where several fit, and that what answers so changes nothing but the TAPE. */
public final class AnswersTest extends Checks {
    private static final int[] ONE = savepointOf(1, partOut(7, -1, 0));

    // ---- logs of which several answers fit

    /** Two PARTS, a kept MARK and one that is not, an owner, and FREE rows. */
    private static MarkLog some() {
        MarkLog x = new MarkLog(24);
        partOfLength(x, 33);
        x.part(3, -3);
        x.mark(2);
        x.mark(1);
        x.keep(1);
        x.owner(2);
        return x;
    }

    /** No FREE row, a MARK that is not kept. */
    private static MarkLog full() {
        MarkLog x = new MarkLog(4);
        x.part(0, 0);
        x.part(0, 0);
        x.mark(1);
        return x;
    }

    private static MarkLog sixMade() {
        MarkLog x = new MarkLog(9);
        x.part(0, 0);
        for (int k = 0; k < 6; k++) x.mark(1);
        return x;
    }

    /** Five MARKS that are not kept, and room for a PART of one row, but not for one of six more. */
    private static MarkLog fiveMade() {
        MarkLog x = sixMade();
        x.give(3);
        return x;
    }

    private static MarkLog lastPart() {
        MarkLog x = new MarkLog(9);
        setRow(x, 2, partRow(0, 0, BILLION, 0, 0));
        x.open();
        return x;
    }

    private static MarkLog lastMark() {
        MarkLog x = new MarkLog(9);
        setRow(x, 2, partRow(0, 0, 1, 0, 0));
        setRows(x, 3, markRows(BILLION, new long[] {1, 2, 0}));
        x.open();
        return x;
    }

    private static MarkLog lastSerial() {
        MarkLog x = new MarkLog(9);
        setRow(x, 0, head(BILLION, 3, 65535));
        x.open();
        return x;
    }

    private static MarkLog lastOwner() {
        MarkLog x = new MarkLog(9);
        setRow(x, 1, head(7, 3, 65535));
        x.open();
        return x;
    }

    /** MARK 1 is kept and not WHOLE, MARK 2 is not kept and not WHOLE, MARK 3 is WHOLE. */
    private static MarkLog notWhole() {
        MarkLog x = new MarkLog(14);
        x.part(0, 0);
        x.mark(1);
        x.keep(1);
        x.mark(1);
        x.part(0, 0);
        x.mark(1);
        x.poke(2, 9, 1);
        return x;
    }

    private static MarkLog closed(MarkLog x) {
        x.close();
        return x;
    }

    private static MarkLog lost(MarkLog x) {
        x.cut(0);
        x.owner(0);
        return x;
    }

    private static MarkLog fed(MarkLog x, int... bytes) {
        x.wipe();
        feedBytes(x, bytes);
        return x;
    }

    private static MarkLog fedMany(MarkLog x, int n) {
        x.wipe();
        feedMany(x, n);
        return x;
    }

    // ---- what a refused call leaves

    /** The call answers so, and leaves all as it was: what is known, every byte, the power; of the TAPE so many bytes. */
    private static void refused(String name, Supplier<MarkLog> made, ToLongFunction<MarkLog> call, long answer, int tapeLeft) {
        MarkLog x = made.get();
        String before = state(x);
        int written = x.told(2);
        due(name, call.applyAsLong(x), answer);
        dueSame("what is there after " + name, state(x), before);
        due("bytes written after " + name, x.told(2), written);
        due("the TAPE after " + name, x.wipe(), tapeLeft);
        powerLeft(name, made.get(), call);
        knownLeft(name, made, call);
    }

    private static void powerLeft(String name, MarkLog x, ToLongFunction<MarkLog> call) {
        x.cut(5);
        call.applyAsLong(x);
        x.open();
        int written = x.told(2);
        long answer = x.owner(0);
        if (answer == FULL) answer = x.part(0, 0);
        due("the power after " + name, answer, LOST);
        due("bytes of power after " + name, x.told(2) - written, 5);
    }

    /** Also what is known, but not seen while CLOSED: a log that was OPENED again is as one without the call. */
    private static void knownLeft(String name, Supplier<MarkLog> made, ToLongFunction<MarkLog> call) {
        MarkLog x = made.get();
        MarkLog y = made.get();
        call.applyAsLong(x);
        due("open() after " + name, x.open(), y.open());
        dueSame("what is known after " + name, state(x), state(y));
    }

    // ---- the calls, one by one

    private static void tape() {
        promise(2);
        says("of several .. then BAD, NONE, FULL");
        refused("feed(1, 0) at 2000", () -> fedMany(some(), 2000), x -> x.feed(1, 0), BAD, 2000);
        refused("feed(1, 9) at 2000", () -> fedMany(some(), 2000), x -> x.feed(1, 9), BAD, 2000);
        refused("feed(1, 9) at 2000, CLOSED", () -> closed(fedMany(some(), 2000)), x -> x.feed(1, 9), BAD, 2000);
        says("What answers so (but LOST) changes nothing");
        refused("feed(1, 1) at 2000", () -> fedMany(some(), 2000), x -> x.feed(1, 1), FULL, 2000);
        refused("feed(1, 8) at 1993", () -> fedMany(some(), 1993), x -> x.feed(1, 8), FULL, 1993);
        refused("feed(1, 0) at 3", () -> fedMany(some(), 3), x -> x.feed(1, 0), BAD, 3);
        refused("feed(1, 9) at 3", () -> fedMany(some(), 3), x -> x.feed(1, 9), BAD, 3);
        refused("feed(1, 1) at 2000, CLOSED", () -> closed(fedMany(some(), 2000)), x -> x.feed(1, 1), FULL, 2000);
    }

    private static void parts() {
        promise(4);
        says("of several CLOSED first");
        refused("part(8, 0) CLOSED", () -> closed(fed(some(), 1)), x -> x.part(8, 0), CLOSED, 0);
        refused("part(0, 0) of 156 CLOSED", () -> closed(fedMany(some(), 156)), x -> x.part(0, 0), CLOSED, 0);
        refused("part(0, 0) of a full one CLOSED", () -> closed(fed(full(), 1)), x -> x.part(0, 0), CLOSED, 0);
        refused("part(0, 0) CLOSED", () -> closed(fed(some(), 1)), x -> x.part(0, 0), CLOSED, 0);
        refused("part(0, 0) of what power closed", () -> lost(fed(some(), 1)), x -> x.part(0, 0), CLOSED, 0);
        says("then BAD, NONE, FULL");
        refused("part(8, 0) of a full one", () -> fed(full(), 1), x -> x.part(8, 0), BAD, 0);
        refused("part(-1, 0) of a full one", () -> fed(full(), 1), x -> x.part(-1, 0), BAD, 0);
        refused("part(0, 0) of 156 of a full one", () -> fedMany(full(), 156), x -> x.part(0, 0), BAD, 0);
        refused("part(8, 0) behind the last NUMBER", () -> fed(lastPart(), 1), x -> x.part(8, 0), BAD, 0);
        refused("part(0, 0) of 156 behind the last NUMBER", () -> fedMany(lastPart(), 156), x -> x.part(0, 0), BAD, 0);
        says("What answers so (but LOST) changes nothing, but the TAPE where it is read");
        refused("part(8, 0)", () -> fed(some(), 1), x -> x.part(8, 0), BAD, 0);
        refused("part(0, 0) of 156", () -> fedMany(some(), 156), x -> x.part(0, 0), BAD, 0);
        refused("part(0, 0) of 2000", () -> fedMany(some(), 2000), x -> x.part(0, 0), BAD, 0);
        refused("part(0, 0) of a full one", () -> fed(full(), 1), x -> x.part(0, 0), FULL, 0);
        refused("part(0, 0) of nothing of a full one", () -> fed(full()), x -> x.part(0, 0), FULL, 0);
        refused("part(0, 0) behind the last NUMBER", () -> fed(lastPart(), 1), x -> x.part(0, 0), FULL, 0);
    }

    private static void marksMade() {
        promise(5);
        says("of several CLOSED first");
        refused("mark(0) CLOSED", () -> closed(fed(some(), 1)), x -> x.mark(0), CLOSED, 1);
        refused("mark(13) CLOSED", () -> closed(fed(some(), 1)), x -> x.mark(13), CLOSED, 1);
        refused("mark(9) CLOSED", () -> closed(fed(some(), 1)), x -> x.mark(9), CLOSED, 1);
        refused("mark(1) of six CLOSED", () -> closed(fed(sixMade(), 1)), x -> x.mark(1), CLOSED, 1);
        refused("mark(1) CLOSED", () -> closed(fed(some(), 1)), x -> x.mark(1), CLOSED, 1);
        says("then BAD, NONE, FULL");
        refused("mark(13) of one PART", () -> fed(lastMark(), 1), x -> x.mark(13), BAD, 1);
        refused("mark(0) of six", () -> fed(sixMade(), 1), x -> x.mark(0), BAD, 1);
        refused("mark(13) of six", () -> fed(sixMade(), 1), x -> x.mark(13), BAD, 1);
        refused("mark(13) behind the last NUMBER", () -> fed(lastMark(), 1), x -> x.mark(13), BAD, 1);
        refused("mark(2) of one PART, of six", () -> fed(sixMade(), 1), x -> x.mark(2), NONE, 1);
        refused("mark(2) of one PART behind the last NUMBER", () -> fed(lastMark(), 1), x -> x.mark(2), NONE, 1);
        says("What answers so (but LOST) changes nothing");
        refused("mark(3) of two", () -> fed(some(), 1), x -> x.mark(3), NONE, 1);
        refused("mark(0)", () -> fed(some(), 1), x -> x.mark(0), BAD, 1);
        refused("mark(1) of six", () -> fed(sixMade(), 1), x -> x.mark(1), FULL, 1);
        refused("mark(1) behind the last NUMBER", () -> fed(lastMark(), 1), x -> x.mark(1), FULL, 1);

        promise(6);
        says("of several CLOSED first, then BAD, NONE, FULL");
        refused("keep(9) CLOSED", () -> closed(fed(some(), 1)), x -> x.keep(9), CLOSED, 1);
        refused("keep(2) CLOSED", () -> closed(fed(some(), 1)), x -> x.keep(2), CLOSED, 1);
        refused("keep(1) of a full one CLOSED", () -> closed(fed(full(), 1)), x -> x.keep(1), CLOSED, 1);
        refused("keep(2) of a full one", () -> fed(full(), 1), x -> x.keep(2), NONE, 1);
        says("What answers so (but LOST) changes nothing");
        refused("keep(9)", () -> fed(some(), 1), x -> x.keep(9), NONE, 1);
        refused("keep(1): kept", () -> fed(some(), 1), x -> x.keep(1), NONE, 1);
        refused("keep(1) of a full one", () -> fed(full(), 1), x -> x.keep(1), FULL, 1);

        promise(7);
        refused("give(9)", () -> fed(some(), 1), x -> x.give(9), NONE, 1);
        refused("give(1): kept", () -> fed(some(), 1), x -> x.give(1), NONE, 1);
        says("of several CLOSED first");
        refused("give(2) CLOSED", () -> closed(fed(some(), 1)), x -> x.give(2), CLOSED, 1);
        refused("give(9) CLOSED", () -> closed(fed(some(), 1)), x -> x.give(9), CLOSED, 1);
    }

    private static void ownersAndDrop() {
        promise(8);
        says("of several CLOSED first");
        refused("owner(8) CLOSED", () -> closed(fed(some(), 1)), x -> x.owner(8), CLOSED, 1);
        refused("owner(0) CLOSED", () -> closed(fed(some(), 1)), x -> x.owner(0), CLOSED, 1);
        refused("owner(1) at 65535 CLOSED", () -> closed(fed(lastOwner(), 1)), x -> x.owner(1), CLOSED, 1);
        says("then BAD, NONE, FULL");
        refused("owner(8) behind the last SERIAL", () -> fed(lastSerial(), 1), x -> x.owner(8), BAD, 1);
        refused("owner(-1) behind the last SERIAL", () -> fed(lastSerial(), 1), x -> x.owner(-1), BAD, 1);
        says("What answers so (but LOST) changes nothing");
        refused("owner(8)", () -> fed(some(), 1), x -> x.owner(8), BAD, 1);
        refused("owner(-1)", () -> fed(some(), 1), x -> x.owner(-1), BAD, 1);
        refused("owner(0) behind the last SERIAL", () -> fed(lastSerial(), 1), x -> x.owner(0), FULL, 1);
        refused("owner(1) at 65535", () -> fed(lastOwner(), 1), x -> x.owner(1), FULL, 1);

        promise(9);
        refused("drop(-1)", () -> fed(some(), 1), x -> x.drop(-1), BAD, 1);
        refused("drop(MIN)", () -> fed(some(), 1), x -> x.drop(Integer.MIN_VALUE), BAD, 1);
        says("of several CLOSED first");
        refused("drop(-1) CLOSED", () -> closed(fed(some(), 1)), x -> x.drop(-1), CLOSED, 1);
        refused("drop(0) CLOSED", () -> closed(fed(some(), 1)), x -> x.drop(0), CLOSED, 1);

        promise(10);
        says("False: n is not -1 .. 20000 (and nothing is changed)");
        refused("cut(-2)", () -> fed(some(), 1), x -> x.cut(-2) ? 1 : 0, 0, 1);
        refused("cut(20001)", () -> fed(some(), 1), x -> x.cut(20001) ? 1 : 0, 0, 1);
        refused("cut(20001) CLOSED", () -> closed(fed(some(), 1)), x -> x.cut(20001) ? 1 : 0, 0, 1);
        promise(11);
        refused("close() CLOSED", () -> closed(fed(some(), 1)), x -> x.close() ? 1 : 0, 0, 1);
    }

    /** What is just asked changes nothing, whatever it answers. */
    private static void asked() {
        Supplier<MarkLog> open = () -> fed(some(), 1);
        Supplier<MarkLog> shut = () -> closed(fed(some(), 1));
        promise(13);
        refused("usable()", open, x -> x.usable(), 1, 1);
        refused("usable() of nothing", () -> fed(full(), 1), x -> x.usable(), NONE, 1);
        refused("usable() CLOSED", shut, x -> x.usable(), CLOSED, 1);
        refused("usable() of nothing CLOSED", () -> closed(fed(full(), 1)), x -> x.usable(), CLOSED, 1);
        promise(14);
        refused("whole(1)", open, x -> x.whole(1), 1, 1);
        refused("whole(9)", open, x -> x.whole(9), NONE, 1);
        refused("whole(9) CLOSED", shut, x -> x.whole(9), CLOSED, 1);
        refused("whole(1) CLOSED", shut, x -> x.whole(1), CLOSED, 1);
        promise(15);
        refused("marks(-1)", open, x -> x.marks(-1), 1, 1);
        refused("marks(1)", open, x -> x.marks(1), NONE, 1);
        refused("marks(1) CLOSED", shut, x -> x.marks(1), CLOSED, 1);
        refused("marks(-1) CLOSED", shut, x -> x.marks(-1), CLOSED, 1);
        promise(16);
        refused("markOf(1, 1)", open, x -> x.markOf(1, 1), 2, 1);
        refused("markOf(1, 2)", open, x -> x.markOf(1, 2), NONE, 1);
        refused("markOf(9, 0)", open, x -> x.markOf(9, 0), NONE, 1);
        refused("markOf(9, 9) CLOSED", shut, x -> x.markOf(9, 9), CLOSED, 1);
        promise(17);
        refused("partOf(2, 1)", open, x -> x.partOf(2, 1), -3, 1);
        refused("partOf(9, 6): BAD before NONE", open, x -> x.partOf(9, 6), BAD, 1);
        refused("partOf(9, -1): BAD before NONE", open, x -> x.partOf(9, -1), BAD, 1);
        refused("partOf(9, 5)", open, x -> x.partOf(9, 5), NONE, 1);
        refused("partOf(9, 6) CLOSED", shut, x -> x.partOf(9, 6), CLOSED, 1);
        refused("partOf(9, 0) CLOSED", shut, x -> x.partOf(9, 0), CLOSED, 1);
        promise(18);
        refused("partByte(1, 32)", open, x -> x.partByte(1, 32), 33, 1);
        refused("partByte(1, 33)", open, x -> x.partByte(1, 33), NONE, 1);
        refused("partByte(9, 0)", open, x -> x.partByte(9, 0), NONE, 1);
        refused("partByte(9, -1) CLOSED", shut, x -> x.partByte(9, -1), CLOSED, 1);
        promise(19);
        refused("named(2)", open, x -> x.named(2), 2, 1);
        refused("named(9) CLOSED", shut, x -> x.named(9), CLOSED, 1);
        promise(20);
        refused("badAt()", open, x -> x.badAt(), NONE, 1);
        refused("badAt() of one that is not WHOLE", () -> fed(notWhole(), 1), x -> x.badAt(), 2, 1);
        refused("badAt() CLOSED", shut, x -> x.badAt(), CLOSED, 1);
        promise(21);
        refused("poke(24, 0, 1)", open, x -> x.poke(24, 0, 1), BAD, 1);
        refused("poke(2, 0, 256)", open, x -> x.poke(2, 0, 256), BAD, 1);
        refused("poke(2, 32, 1) CLOSED", shut, x -> x.poke(2, 32, 1), BAD, 1);
        promise(22);
        refused("byteAt(24, 0)", open, x -> x.byteAt(24, 0), BAD, 1);
        refused("byteAt(2, 0) CLOSED", shut, x -> x.byteAt(2, 0), 1, 1);
        refused("byteAt(2, 32) CLOSED", shut, x -> x.byteAt(2, 32), BAD, 1);
        promise(26);
        refused("told(17)", open, x -> x.told(17), BAD, 1);
        refused("told(17) CLOSED", shut, x -> x.told(17), BAD, 1);
    }

    private static void savepoints() {
        promise(23);
        says("CLOSED; NONE: no such MARK; BAD: it is not WHOLE; NONE: no such byte");
        refused("out(1, -1)", () -> fed(some(), 1), x -> x.out(1, -1), 65, 1);
        refused("out(9, 0)", () -> fed(some(), 1), x -> x.out(9, 0), NONE, 1);
        refused("out(9, 0) CLOSED", () -> closed(fed(some(), 1)), x -> x.out(9, 0), CLOSED, 1);
        refused("out(1, 999) CLOSED", () -> closed(fed(some(), 1)), x -> x.out(1, 999), CLOSED, 1);
        refused("out(1, 0) not WHOLE, CLOSED", () -> closed(fed(notWhole(), 1)), x -> x.out(1, 0), CLOSED, 1);
        refused("out(1, 999): BAD before NONE", () -> fed(notWhole(), 1), x -> x.out(1, 999), BAD, 1);
        refused("out(2, -2): BAD before NONE", () -> fed(notWhole(), 1), x -> x.out(2, -2), BAD, 1);
        refused("out(1, 0) not WHOLE", () -> fed(notWhole(), 1), x -> x.out(1, 0), BAD, 1);
        refused("out(3, 21)", () -> fed(notWhole(), 1), x -> x.out(3, 21), NONE, 1);

        promise(24);
        int[] none = savepointOf(0);
        says("of several CLOSED first");
        refused("in() of none CLOSED", () -> closed(fed(some(), none)), x -> x.in(), CLOSED, 0);
        refused("in() of a full one CLOSED", () -> closed(fed(full(), ONE)), x -> x.in(), CLOSED, 0);
        refused("in() CLOSED", () -> closed(fed(some(), ONE)), x -> x.in(), CLOSED, 0);
        refused("in() of what power closed", () -> lost(fed(some(), ONE)), x -> x.in(), CLOSED, 0);
        says("then BAD, NONE, FULL");
        refused("in() of none of six", () -> fed(sixMade(), none), x -> x.in(), BAD, 0);
        refused("in() of none of a full one", () -> fed(full(), none), x -> x.in(), BAD, 0);
        refused("in() of none behind the last PART", () -> fed(lastPart(), none), x -> x.in(), BAD, 0);
        refused("in() of none behind the last MARK", () -> fed(lastMark(), none), x -> x.in(), BAD, 0);
        refused("in() of GROUP 8 of a full one", () -> fed(full(), savepointOf(1, partOut(8, 0, 0))), x -> x.in(), BAD, 0);
        says("What answers so (but LOST) changes nothing, but the TAPE where it is read");
        refused("in() of none", () -> fed(some(), none), x -> x.in(), BAD, 0);
        refused("in() of nothing", () -> fed(some()), x -> x.in(), BAD, 0);
        refused("in() of six", () -> fed(sixMade(), ONE), x -> x.in(), FULL, 0);
        refused("in() of a full one", () -> fed(full(), ONE), x -> x.in(), FULL, 0);
        refused("in() behind the last PART", () -> fed(lastPart(), ONE), x -> x.in(), FULL, 0);
        refused("in() behind the last MARK", () -> fed(lastMark(), ONE), x -> x.in(), FULL, 0);
        int[] two = savepointOf(2, joined(partOut(0, 0, 0), partOut(0, 0, 155)));
        refused("in() without room for the second", () -> fed(fiveMade(), two), x -> x.in(), FULL, 0);

        promise(25);
        says("CLOSED; NONE; BAD: one is not WHOLE");
        refused("equal(1, 2)", () -> fed(some(), 1), x -> x.equal(1, 2), 0, 1);
        refused("equal(1, 9)", () -> fed(some(), 1), x -> x.equal(1, 9), NONE, 1);
        refused("equal(9, 1)", () -> fed(some(), 1), x -> x.equal(9, 1), NONE, 1);
        refused("equal(9, 9) CLOSED", () -> closed(fed(some(), 1)), x -> x.equal(9, 9), CLOSED, 1);
        refused("equal(1, 1) not WHOLE, CLOSED", () -> closed(fed(notWhole(), 1)), x -> x.equal(1, 1), CLOSED, 1);
        refused("equal(1, 3)", () -> fed(notWhole(), 1), x -> x.equal(1, 3), BAD, 1);
        refused("equal(3, 2)", () -> fed(notWhole(), 1), x -> x.equal(3, 2), BAD, 1);
        // the promise names NONE first; without it the paragraph "Answers" would have BAD first
        refused("equal(1, 9): one is not there, the other not WHOLE", () -> fed(notWhole(), 1), x -> x.equal(1, 9), NONE, 1);
        refused("equal(9, 1): one is not there, the other not WHOLE", () -> fed(notWhole(), 1), x -> x.equal(9, 1), NONE, 1);
    }

    public static void main(String[] args) {
        tape();
        parts();
        marksMade();
        ownersAndDrop();
        asked();
        savepoints();
        end("all answers hold");
    }
}

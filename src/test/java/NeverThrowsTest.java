import java.util.ArrayList;
import java.util.List;

/** No call throws, for any arguments, in any state: all calls with the farthest numbers and those next to each limit. */
public final class NeverThrowsTest extends Checks {
    private static final int[] INTS = {Integer.MIN_VALUE, Integer.MIN_VALUE + 1, -134217728, -65536, -513, -256, -33, -32, -31, -13, -9, -8,
        -7, -5, -4, -3, -2, -1, 0, 1, 2, 3, 4, 5, 6, 7, 8, 9, 11, 12, 13, 16, 17, 30, 31, 32, 33, 77, 154, 155, 156, 254, 255, 256, 257,
        510, 511, 512, 513, 1999, 2000, 2001, 2002, 19999, 20000, 20001, 65535, 65536, 67108864, 134217727, 134217728,
        BILLION - 1, BILLION, BILLION + 1, Integer.MAX_VALUE - 1, Integer.MAX_VALUE};
    private static final long[] LONGS = {Long.MIN_VALUE, -1, 0, 1, Long.MAX_VALUE};

    private static MarkLog some(int rows) {
        MarkLog x = new MarkLog(rows);
        partOfLength(x, 33);
        x.part(7, -1);
        x.mark(2);
        x.keep(1);
        x.mark(1);
        x.owner(7);
        feedMany(x, 40);
        return x;
    }

    /** Rows at the end of the medium, with the farthest NUMBERS, one of them reaching behind it. */
    private static MarkLog farthest(int rows) {
        MarkLog x = new MarkLog(rows);
        setRow(x, 0, head(BILLION, 65535, 65535, 65535, 65535, 65535, 65535, 65535, 65535));
        setRow(x, 2, partRow(7, 0, BILLION, Long.MIN_VALUE, -1));
        setRow(x, rows - 1, partRow(7, 155, BILLION - 1, Long.MIN_VALUE, -1));
        if (rows > 6) setRows(x, rows - 3, markRows(BILLION, new long[] {BILLION, 65535, -1}));
        x.open();
        return x;
    }

    private static List<MarkLog> logs() {
        List<MarkLog> all = new ArrayList<>();
        for (int rows : new int[] {4, 5, 9, 24, 512}) {
            all.add(new MarkLog(rows));
            all.add(some(rows));
            all.add(farthest(rows));
            MarkLog closed = some(rows);
            closed.close();
            all.add(closed);
            MarkLog lost = some(rows);
            lost.cut(3);
            lost.owner(1);
            all.add(lost);
            MarkLog spoiled = some(rows);
            spoil(spoiled, 0, Math.min(rows, 12));
            all.add(spoiled);
        }
        return all;
    }

    private interface Call {
        void on(MarkLog x);
    }

    private static void never(String name, MarkLog x, Call call) {
        try {
            call.on(x);
        } catch (RuntimeException thrown) {
            due(name + " threw " + thrown, 1, 0);
        }
    }

    private static void withOne(MarkLog x, int a) {
        never("mark " + a, x, y -> y.mark(a));
        never("keep " + a, x, y -> y.keep(a));
        never("give " + a, x, y -> y.give(a));
        never("owner " + a, x, y -> y.owner(a));
        never("whole " + a, x, y -> y.whole(a));
        never("marks " + a, x, y -> y.marks(a));
        never("named " + a, x, y -> y.named(a));
        never("told " + a, x, y -> y.told(a));
        for (long b : LONGS) {
            never("feed " + b + " " + a, x, y -> y.feed(b, a));
            never("part " + a + " " + b, x, y -> y.part(a, b));
        }
        never("in", x, MarkLog::in);
    }

    private static void withTwo(MarkLog x, int a, int b) {
        never("markOf " + a + " " + b, x, y -> y.markOf(a, b));
        never("partOf " + a + " " + b, x, y -> y.partOf(a, b));
        never("partByte " + a + " " + b, x, y -> y.partByte(a, b));
        never("byteAt " + a + " " + b, x, y -> y.byteAt(a, b));
        never("out " + a + " " + b, x, y -> y.out(a, b));
        never("equal " + a + " " + b, x, y -> y.equal(a, b));
        for (int mask : new int[] {Integer.MIN_VALUE, -1, 0, 255, 256, Integer.MAX_VALUE}) {
            never("poke " + a + " " + b, x, y -> y.poke(a, b, mask));
        }
    }

    private static void without(MarkLog x) {
        never("wipe", x, MarkLog::wipe);
        never("usable", x, MarkLog::usable);
        never("badAt", x, MarkLog::badAt);
        never("open", x, MarkLog::open);
        never("close", x, MarkLog::close);
        never("open", x, MarkLog::open);
    }

    public static void main(String[] args) {
        section("no call throws");
        for (int rows : INTS) never("new MarkLog(" + rows + ")", null, y -> new MarkLog(rows));
        for (MarkLog x : logs()) {
            for (int a : INTS) for (int b : INTS) withTwo(x, a, b);
            for (int a : INTS) withOne(x, a);
            without(x);
            for (int a : INTS) for (int b : INTS) withTwo(x, a, b);
            for (int a : INTS) withOne(x, a);
            for (int a : INTS) never("drop " + a, x, y -> y.drop(a));
            for (int a : INTS) never("cut " + a, x, y -> y.cut(a));
            without(x);
        }
        end("no call throws");
    }
}

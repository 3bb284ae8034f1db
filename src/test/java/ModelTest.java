import java.util.ArrayList;
import java.util.Arrays;
import java.util.List;
import java.util.Map;
import java.util.Random;
import java.util.TreeMap;

/** Many runs of calls on a MarkLog and on a plain model of the document; every answer must be the same. */
public final class ModelTest {
    private static final int NONE = -1, BAD = -2, CLOSED = -3, FULL = -4, LOST = -5;
    private static final int BILLION = 1000000000;
    private static int wrong = 0;
    private static final int[] seen = new int[8];

    static final class PowerGone extends RuntimeException {
        private static final long serialVersionUID = 1L;
    }

    static long digest(int[] bytes, int from, int to) {
        long s = 0;
        for (int i = from; i < to; i++) s = Long.rotateLeft(s ^ bytes[i], 53) * 0xC2B2AE3D27D4EB4FL;
        return s;
    }

    static long get(int[] bytes, int at, int n) {
        long v = 0;
        for (int k = 0; k < n; k++) v = v * 256 + bytes[at + k];
        return v;
    }

    static void put(int[] bytes, int at, long v, int n) {
        for (int k = n - 1; k >= 0; k--) {
            bytes[at + k] = (int) (v & 255);
            v >>>= 8;
        }
    }

    static void sum(int[] row) {
        put(row, 24, digest(row, 0, 24), 8);
    }

    static boolean sumFits(int[] row) {
        return get(row, 24, 8) == digest(row, 0, 24);
    }

    static final class P {
        int number, group, length, row;
        long position;
        int rows() { return 1 + (length + 30) / 31; }
    }

    static final class M {
        int number, row;
        long digest;
        List<Integer> parts = new ArrayList<>();
        int rows() { return 1 + (parts.size() + 1) / 2; }
    }

    static final class Model {
        final int[][] m;
        boolean open = true;
        int cut = -1, written = 0, serial = 0, topPart = 0, topMark = 0;
        List<Integer> tape = new ArrayList<>();
        final int[] own = new int[8];
        final TreeMap<Integer, P> parts = new TreeMap<>();
        final TreeMap<Integer, M> kept = new TreeMap<>(), made = new TreeMap<>();

        Model(int rows) {
            m = new int[rows < 4 ? 4 : rows > 512 ? 512 : rows][32];
        }

        int feed(long bytes, int n) {
            if (n < 1 || n > 8) return BAD;
            if (tape.size() + n > 2000) return FULL;
            for (int k = 0; k < n; k++) tape.add((int) (bytes >> 8 * k & 255));
            return tape.size();
        }

        int wipe() {
            int n = tape.size();
            tape.clear();
            return n;
        }

        void writeRow(int row, int[] bytes) {
            for (int i = 0; i < 32; i++) {
                if (cut == 0) {
                    cut = -1;
                    open = false;
                    throw new PowerGone();
                }
                if (cut > 0) cut--;
                m[row][i] = bytes[i];
                written++;
            }
        }

        void writeAll(int row, int[][] image) {
            for (int k = 1; k < image.length; k++) writeRow(row + k, image[k]);
            writeRow(row, image[0]);
        }

        void takeBack(int row, int rows) {
            for (int k = 0; k < rows; k++) writeRow(row + k, new int[32]);
        }

        boolean[] used() {
            boolean[] used = new boolean[m.length];
            used[0] = used[1] = true;
            for (P p : parts.values()) Arrays.fill(used, p.row, p.row + p.rows(), true);
            for (M k : kept.values()) Arrays.fill(used, k.row, k.row + k.rows(), true);
            return used;
        }

        static int place(boolean[] used, int rows) {
            next:
            for (int r = 0; r + rows <= used.length; r++) {
                for (int k = 0; k < rows; k++) if (used[r + k]) continue next;
                return r;
            }
            return -1;
        }

        void writePart(int group, long position, List<Integer> bytes) {
            P p = new P();
            p.number = topPart + 1;
            p.group = group;
            p.position = position;
            p.length = bytes.size();
            p.row = place(used(), p.rows());
            writeAll(p.row, partImage(p, bytes));
            parts.put(p.number, p);
            topPart = p.number;
        }

        static int[][] partImage(P p, List<Integer> bytes) {
            int[][] image = new int[p.rows()][32];
            int[] all = new int[32 * (p.rows() - 1)];
            for (int k = 1; k < p.rows(); k++) {
                image[k][0] = 5;
                for (int i = 0; i < 31 && 31 * (k - 1) + i < p.length; i++) image[k][1 + i] = bytes.get(31 * (k - 1) + i);
                System.arraycopy(image[k], 0, all, 32 * (k - 1), 32);
            }
            put(image[0], 0, 1, 1);
            put(image[0], 1, p.group, 1);
            put(image[0], 2, p.length, 2);
            put(image[0], 4, p.number, 4);
            put(image[0], 8, p.position, 8);
            put(image[0], 16, digest(all, 0, all.length), 8);
            sum(image[0]);
            return image;
        }

        int part(int group, long position) {
            List<Integer> bytes = tape;
            tape = new ArrayList<>();
            if (!open) return CLOSED;
            if (group < 0 || group > 7 || bytes.size() > 155) return BAD;
            P p = new P();
            p.length = bytes.size();
            if (topPart == BILLION || place(used(), p.rows()) < 0) return FULL;
            writePart(group, position, bytes);
            return topPart;
        }

        int mark(int count) {
            if (!open) return CLOSED;
            if (count < 1 || count > 12) return BAD;
            if (parts.size() < count) return NONE;
            if (made.size() == 6 || topMark == BILLION) return FULL;
            return make(count);
        }

        int make(int count) {
            M k = new M();
            k.number = ++topMark;
            List<Integer> all = new ArrayList<>(parts.keySet());
            k.parts.addAll(all.subList(all.size() - count, all.size()));
            made.put(k.number, k);
            return k.number;
        }

        int keep(int mark) {
            if (!open) return CLOSED;
            M k = made.get(mark);
            if (k == null) return NONE;
            int row = place(used(), k.rows());
            if (row < 0) return FULL;
            int[][] image = markImage(k);
            writeAll(row, image);
            k.row = row;
            k.digest = get(image[0], 8, 8);
            made.remove(mark);
            kept.put(mark, k);
            return 1;
        }

        int[][] markImage(M k) {
            int[][] image = new int[k.rows()][32];
            int[] all = new int[32 * (k.rows() - 1)];
            for (int i = 0; i < k.parts.size(); i++) {
                P p = parts.get(k.parts.get(i));
                int[] row = image[1 + i / 2];
                int at = i % 2 == 0 ? 1 : 15;
                row[0] = 6;
                put(row, at, p.number, 4);
                put(row, at + 4, p.row, 2);
                put(row, at + 6, get(m[p.row], 16, 8), 8);
            }
            for (int i = 1; i < k.rows(); i++) System.arraycopy(image[i], 0, all, 32 * (i - 1), 32);
            put(image[0], 0, 2, 1);
            put(image[0], 1, k.parts.size(), 1);
            put(image[0], 4, k.number, 4);
            put(image[0], 8, digest(all, 0, all.length), 8);
            sum(image[0]);
            return image;
        }

        int give(int mark) {
            if (!open) return CLOSED;
            return made.remove(mark) == null ? NONE : 1;
        }

        int owner(int group) {
            if (!open) return CLOSED;
            if (group < 0 || group > 7) return BAD;
            if (own[group] == 65535 || serial == BILLION) return FULL;
            own[group]++;
            serial++;
            int[] row = new int[32];
            row[0] = 4;
            put(row, 4, serial, 4);
            for (int g = 0; g < 8; g++) put(row, 8 + 2 * g, own[g], 2);
            sum(row);
            writeRow(serial % 2, row);
            return own[group];
        }

        int drop(int count) {
            if (!open) return CLOSED;
            if (count < 0) return BAD;
            int limit = 0;
            for (M k : kept.values()) for (int p : k.parts) limit = Math.max(limit, p);
            while (kept.size() > count) {
                M k = kept.firstEntry().getValue();
                takeBack(k.row, k.rows());
                kept.remove(k.number);
            }
            int dropped = 0;
            for (P p : new ArrayList<>(parts.values())) {
                if (p.number > limit || names(p.number) > 0) continue;
                takeBack(p.row, p.rows());
                parts.remove(p.number);
                dropped++;
            }
            return dropped;
        }

        int names(int part) {
            int n = 0;
            for (M k : kept.values()) if (k.parts.contains(part)) n++;
            for (M k : made.values()) if (k.parts.contains(part)) n++;
            return n;
        }

        boolean cut(int n) {
            if (n < -1 || n > 20000) return false;
            cut = n;
            return true;
        }

        boolean close() {
            boolean was = open;
            open = false;
            return was;
        }

        boolean goodHead(int r) {
            return sumFits(m[r]) && m[r][0] == 4 && number(get(m[r], 4, 4));
        }

        static boolean number(long v) {
            return v >= 1 && v <= BILLION;
        }

        int open() {
            open = true;
            parts.clear();
            kept.clear();
            made.clear();
            topPart = topMark = serial = 0;
            Arrays.fill(own, 0);
            for (int r = 0; r < 2; r++) {
                if (!goodHead(r) || get(m[r], 4, 4) <= serial) continue;
                serial = (int) get(m[r], 4, 4);
                for (int g = 0; g < 8; g++) own[g] = (int) get(m[r], 8 + 2 * g, 2);
            }
            int r = 2;
            while (r < m.length) {
                P p = findPart(r);
                M k = findMark(r);
                if (p != null) {
                    if (parts.putIfAbsent(p.number, p) == null) topPart = Math.max(topPart, p.number);
                    r += p.rows();
                } else if (k != null) {
                    if (kept.putIfAbsent(k.number, k) == null) {
                        topMark = Math.max(topMark, k.number);
                        for (int n : k.parts) topPart = Math.max(topPart, n);
                    }
                    r += k.rows();
                } else {
                    r++;
                }
            }
            return kept.size();
        }

        P findPart(int r) {
            if (m[r][0] != 1 || !sumFits(m[r]) || m[r][1] > 7 || get(m[r], 2, 2) > 155 || !number(get(m[r], 4, 4))) return null;
            P p = new P();
            p.group = m[r][1];
            p.length = (int) get(m[r], 2, 2);
            p.number = (int) get(m[r], 4, 4);
            p.position = get(m[r], 8, 8);
            p.row = r;
            return r + p.rows() > m.length ? null : p;
        }

        long rowsDigest(int row, int rows) {
            int[] all = new int[32 * rows];
            for (int k = 0; k < rows; k++) System.arraycopy(m[row + k], 0, all, 32 * k, 32);
            return digest(all, 0, all.length);
        }

        M findMark(int r) {
            if (m[r][0] != 2 || !sumFits(m[r]) || m[r][1] < 1 || m[r][1] > 12 || !number(get(m[r], 4, 4))) return null;
            M k = new M();
            k.number = (int) get(m[r], 4, 4);
            k.row = r;
            k.digest = get(m[r], 8, 8);
            int rows = 1 + (m[r][1] + 1) / 2;
            if (r + rows > m.length || rowsDigest(r + 1, rows - 1) != k.digest) return null;
            long before = 0;
            for (int i = 0; i < m[r][1]; i++) {
                long n = get(m[r + 1 + i / 2], i % 2 == 0 ? 1 : 15, 4);
                if (!number(n) || n <= before) return null;
                before = n;
                k.parts.add((int) n);
            }
            return k;
        }

        boolean whole(P p) {
            int[] row = m[p.row];
            return row[0] == 1 && sumFits(row) && get(row, 4, 4) == p.number && get(row, 2, 2) == p.length
                && get(row, 16, 8) == rowsDigest(p.row + 1, p.rows() - 1);
        }

        boolean asFound(M k) {
            int[] row = m[k.row];
            return row[0] == 2 && sumFits(row) && get(row, 4, 4) == k.number && row[1] == k.parts.size()
                && get(row, 8, 8) == k.digest && rowsDigest(k.row + 1, k.rows() - 1) == k.digest;
        }

        boolean whole(M k) {
            boolean isKept = kept.get(k.number) == k;
            if (isKept && !asFound(k)) return false;
            for (int i = 0; i < k.parts.size(); i++) {
                P p = parts.get(k.parts.get(i));
                if (p == null || !whole(p)) return false;
                if (!isKept) continue;
                int[] entry = m[k.row + 1 + i / 2];
                int at = i % 2 == 0 ? 1 : 15;
                if (get(entry, at + 4, 2) != p.row || get(entry, at + 6, 8) != get(m[p.row], 16, 8)) return false;
            }
            return true;
        }

        M find(int mark) {
            return kept.containsKey(mark) ? kept.get(mark) : made.get(mark);
        }

        int usable() {
            if (!open) return CLOSED;
            int best = NONE;
            for (M k : kept.values()) if (whole(k)) best = k.number;
            return best;
        }

        int whole(int mark) {
            if (!open) return CLOSED;
            return find(mark) == null ? NONE : whole(find(mark)) ? 1 : 0;
        }

        int marks(int k) {
            if (!open) return CLOSED;
            if (k == -1) return kept.size();
            return k < 0 || k >= kept.size() ? NONE : new ArrayList<>(kept.keySet()).get(k);
        }

        int markOf(int mark, int k) {
            if (!open) return CLOSED;
            if (find(mark) == null) return NONE;
            List<Integer> list = find(mark).parts;
            if (k == -1) return list.size();
            return k < 0 || k >= list.size() ? NONE : list.get(k);
        }

        long partOf(int part, int what) {
            if (!open) return CLOSED;
            if (what < 0 || what > 5) return BAD;
            P p = parts.get(part);
            if (p == null) return NONE;
            long[] all = {p.group, p.position, p.length, p.row, whole(p) ? 1 : 0, names(part)};
            return all[what];
        }

        int partByte(int part, int i) {
            if (!open) return CLOSED;
            P p = parts.get(part);
            if (p == null || i < 0 || i >= p.length) return NONE;
            return m[p.row + 1 + i / 31][1 + i % 31];
        }

        int named(int part) {
            return open ? names(part) : CLOSED;
        }

        int badAt() {
            if (!open) return CLOSED;
            for (int r = 0; r < m.length; r++) {
                if (r < 2 && !Arrays.equals(m[r], new int[32]) && !goodHead(r)) return r;
                for (P p : parts.values()) if (p.row == r && !whole(p)) return r;
                for (M k : kept.values()) if (k.row == r && !asFound(k)) return r;
            }
            return NONE;
        }

        int poke(int row, int i, int mask) {
            if (row < 0 || row >= m.length || i < 0 || i > 31 || mask < 1 || mask > 255) return BAD;
            return m[row][i] ^= mask;
        }

        int byteAt(int row, int i) {
            return row < 0 || row >= m.length || i < 0 || i > 31 ? BAD : m[row][i];
        }

        List<Integer> savepoint(M k) {
            List<Integer> all = new ArrayList<>();
            all.add(77);
            all.add(k.parts.size());
            for (int n : k.parts) {
                P p = parts.get(n);
                int[] intro = new int[11];
                put(intro, 0, p.group, 1);
                put(intro, 1, p.position, 8);
                put(intro, 9, p.length, 2);
                for (int b : intro) all.add(b);
                for (int i = 0; i < p.length; i++) all.add(partByte(n, i));
            }
            int[] tail = new int[8];
            put(tail, 0, digest(ints(all), 0, all.size()), 8);
            for (int b : tail) all.add(b);
            return all;
        }

        static int[] ints(List<Integer> list) {
            return list.stream().mapToInt(Integer::intValue).toArray();
        }

        int out(int mark, int i) {
            if (!open) return CLOSED;
            M k = find(mark);
            if (k == null) return NONE;
            if (!whole(k)) return BAD;
            List<Integer> all = savepoint(k);
            if (i == -1) return all.size();
            return i < 0 || i >= all.size() ? NONE : all.get(i);
        }

        int in() {
            int[] t = ints(tape);
            tape = new ArrayList<>();
            if (!open) return CLOSED;
            if (t.length < 2 || t[0] != 77 || t[1] < 1 || t[1] > 12) return BAD;
            List<P> list = new ArrayList<>();
            List<List<Integer>> bytes = new ArrayList<>();
            int at = 2;
            for (int k = 0; k < t[1]; k++) {
                if (at + 11 > t.length || t[at] > 7) return BAD;
                P p = new P();
                p.group = t[at];
                p.position = get(t, at + 1, 8);
                p.length = (int) get(t, at + 9, 2);
                at += 11;
                if (p.length > 155 || at + p.length > t.length) return BAD;
                List<Integer> own = new ArrayList<>();
                for (int i = 0; i < p.length; i++) own.add(t[at + i]);
                at += p.length;
                list.add(p);
                bytes.add(own);
            }
            if (at + 8 != t.length || get(t, at, 8) != digest(t, 0, at)) return BAD;
            if (made.size() == 6 || topMark == BILLION || topPart + list.size() > BILLION) return FULL;
            boolean[] used = used();
            for (P p : list) {
                int row = place(used, p.rows());
                if (row < 0) return FULL;
                Arrays.fill(used, row, row + p.rows(), true);
            }
            for (int k = 0; k < list.size(); k++) writePart(list.get(k).group, list.get(k).position, bytes.get(k));
            return make(list.size());
        }

        int equal(int a, int b) {
            if (!open) return CLOSED;
            if (find(a) == null || find(b) == null) return NONE;
            if (!whole(find(a)) || !whole(find(b))) return BAD;
            return savepoint(find(a)).equals(savepoint(find(b))) ? 1 : 0;
        }

        int told(int what) {
            if (what < 0 || what > 16) return BAD;
            if (what == 0) return open ? 1 : 0;
            if (what == 1) return m.length;
            if (what == 2) return written;
            if (!open) return 0;
            int free = 0;
            for (boolean u : used()) if (!u) free++;
            int[] all = {free, parts.size(), topPart, topMark, serial, made.size()};
            return what < 9 ? all[what - 3] : own[what - 9];
        }
    }

    /** One run: the log, the model, and what was called. */
    static final class Run {
        final Random random;
        final MarkLog log;
        final Model model;
        final List<String> calls = new ArrayList<>();

        Run(long seed) {
            random = new Random(seed);
            int[] sizes = {random.nextInt(7), 8 + random.nextInt(16), 30 + random.nextInt(40), 512, 700};
            int rows = sizes[Math.min(4, random.nextInt(9) / 2)];
            log = new MarkLog(rows);
            model = new Model(rows);
            calls.add("new MarkLog(" + rows + ")");
        }

        interface Call { long answer(); }

        void same(String call, long got, Call due) {
            long want;
            try {
                want = due.answer();
            } catch (PowerGone gone) {
                want = LOST;
            }
            calls.add(call + " = " + got);
            if (want < 0 && want >= LOST) seen[(int) -want]++;
            else seen[0]++;
            if (got == want) return;
            wrong++;
            System.out.println(String.join("\n  ", calls) + " BUT DUE IS " + want);
            throw new IllegalStateException("wrong");
        }

        int below(int n) {
            return random.nextInt(n);
        }

        int aMark() {
            return below(12) == 0 ? below(40) - 3 : Math.max(model.topMark, log.told(6)) - below(8) + (below(10) == 0 ? 1 : 0);
        }

        int aPart() {
            if (below(3) > 0 && !model.parts.isEmpty()) {
                List<Integer> all = new ArrayList<>(model.parts.keySet());
                return all.get(below(all.size()));
            }
            return model.topPart - below(12) + below(3);
        }

        void feed(long bytes, int n) {
            same("feed(" + bytes + ", " + n + ")", log.feed(bytes, n), () -> model.feed(bytes, n));
        }

        void step() {
            switch (below(30)) {
                case 0: case 1: feedSome(); break;
                case 2: case 3: case 4: case 5: part(); break;
                case 6: case 7: case 8: {
                    int n = below(14) == 0 ? below(20) - 3 : 1 + below(model.parts.isEmpty() ? 3 : Math.min(12, model.parts.size()));
                    same("mark(" + n + ")", log.mark(n), () -> model.mark(n));
                    break;
                }
                case 9: case 10: case 11: { int a = aMark(); same("keep(" + a + ")", log.keep(a), () -> model.keep(a)); break; }
                case 12: { int a = aMark(); same("give(" + a + ")", log.give(a), () -> model.give(a)); break; }
                case 13: { int g = below(9) - (below(9) == 0 ? 1 : 0); same("owner(" + g + ")", log.owner(g), () -> model.owner(g)); break; }
                case 14: { int n = below(5) - (below(5) == 0 ? 1 : 0); same("drop(" + n + ")", log.drop(n), () -> model.drop(n)); break; }
                case 15: case 16: power(); break;
                case 17: if (below(3) == 0) same("close()", log.close() ? 1 : 0, () -> model.close() ? 1 : 0); break;
                case 18: if (below(2) == 0) reopen(); break;
                case 19: case 20: pokeSome(); break;
                case 21: forge(); break;
                case 22: savepoint(); break;
                case 23: { int a = aMark(), b = aMark(); same("equal(" + a + ", " + b + ")", log.equal(a, b), () -> model.equal(a, b)); break; }
                default: ask(); break;
            }
            if (!model.open && below(4) == 0) reopen();
        }

        void reopen() {
            same("open()", log.open(), () -> model.open());
        }

        void feedSome() {
            int n = below(20) == 0 ? below(12) - 2 : 1 + below(8);
            feed(random.nextLong(), n);
            if (below(12) == 0) same("wipe()", log.wipe(), () -> model.wipe());
        }

        void part() {
            for (int k = below(3) > 0 ? below(6) : below(22); k > 0; k--) feed(below(4) == 0 ? 0 : random.nextLong(), 8);
            int group = below(15) == 0 ? below(12) - 2 : below(8);
            long position = below(4) == 0 ? random.nextLong() : below(3);
            same("part(" + group + ", " + position + ")", log.part(group, position), () -> model.part(group, position));
        }

        void power() {
            int n = below(8) == 0 ? below(20010) - 4 : below(5) == 0 ? -1 : below(300);
            same("cut(" + n + ")", log.cut(n) ? 1 : 0, () -> model.cut(n) ? 1 : 0);
        }

        void poke(int row, int i, int mask) {
            same("poke(" + row + ", " + i + ", " + mask + ")", log.poke(row, i, mask), () -> model.poke(row, i, mask));
        }

        void pokeSome() {
            int row = below(Math.min(30, model.m.length) + 2) - 1;
            int i = below(34) - 1;
            int mask = below(10) == 0 ? below(260) - 2 : 1 << below(8);
            poke(row, i, mask);
            if (below(3) > 0) return;
            ask();
            poke(row, i, mask);
        }

        void setRow(int row, int[] bytes) {
            for (int i = 0; i < 32; i++) {
                int mask = model.m[row][i] ^ bytes[i];
                if (mask != 0) poke(row, i, mask);
            }
        }

        static final int[] RARE = {0, 1, 2, 3, BILLION - 13, BILLION - 1, BILLION, BILLION + 1, -1};

        /** Somebody writes a row that is right by its SUM, but not by what it tells, or a copy. */
        void forge() {
            int n = model.m.length;
            int[] row = new int[32];
            switch (below(5)) {
                case 0:
                    row[0] = below(6) == 0 ? 3 : 4;
                    put(row, 4, RARE[below(RARE.length)], 4);
                    for (int g = 0; g < 8; g++) put(row, 8 + 2 * g, below(4) == 0 ? 65535 : below(70000), 2);
                    sum(row);
                    setRow(below(2), row);
                    break;
                case 1:
                    row[0] = 1;
                    row[1] = below(9);
                    put(row, 2, below(4) == 0 ? 155 + below(2) : below(70), 2);
                    put(row, 4, below(3) == 0 ? RARE[below(RARE.length)] : 1 + below(model.topPart % BILLION + 3), 4);
                    put(row, 8, random.nextLong(), 8);
                    sum(row);
                    setRow(below(4) == 0 ? n - 1 - below(Math.min(2, n - 2)) : 2 + below(Math.min(30, n - 2)), row);
                    break;
                case 2: forgeMark(); break;
                case 3: alterKnown(); break;
                default:
                    setRow(2 + below(Math.min(30, n - 2)), model.m[below(Math.min(30, n))].clone());
                    break;
            }
            if (below(3) == 0) reopen();
        }

        void forgeMark() {
            int n = model.m.length;
            int count = below(8) == 0 ? below(15) : 1 + below(4);
            int rows = 1 + (count + 1) / 2;
            if (rows > n - 2) return;
            int at = 2 + below(Math.min(30, n - 1 - rows));
            int[] all = new int[32 * (rows - 1)];
            int number = below(3) == 0 ? RARE[below(RARE.length)] : 1 + below(3);
            for (int k = 0; k < count; k++) {
                int e = 32 * (k / 2) + (k % 2 == 0 ? 1 : 15);
                put(all, e, number, 4);
                P p = model.parts.get(number);
                put(all, e + 4, p == null ? below(30) : p.row, 2);
                if (p != null) put(all, e + 6, get(model.m[p.row], 16, 8), 8);
                number += below(12) == 0 ? 0 : 1 + below(2);
            }
            for (int k = 1; k < rows; k++) setRow(at + k, Arrays.copyOfRange(all, 32 * (k - 1), 32 * k));
            int[] row = new int[32];
            row[0] = 2;
            row[1] = count;
            put(row, 4, below(3) == 0 ? RARE[below(RARE.length)] : 1 + below(model.topMark % BILLION + 3), 4);
            put(row, 8, digest(all, 0, all.length) + (below(8) == 0 ? 1 : 0), 8);
            row[18] = below(3);
            sum(row);
            setRow(at, row);
        }

        /** The first row of a known thing is altered, and its SUM made right again. */
        void alterKnown() {
            int at = 2;
            if (below(2) == 0 && !model.parts.isEmpty()) at = new ArrayList<>(model.parts.values()).get(below(model.parts.size())).row;
            else if (!model.kept.isEmpty()) at = new ArrayList<>(model.kept.values()).get(below(model.kept.size())).row;
            int[] row = model.m[at].clone();
            row[below(24)] ^= 1 << below(8);
            sum(row);
            setRow(at, row);
        }

        void savepoint() {
            int a = model.topMark - below(4);
            M k = model.open ? model.find(a) : null;
            if (k == null || !model.whole(k) || below(5) == 0) {
                same("in()", log.in(), () -> model.in());
                return;
            }
            int n = log.out(a, -1);
            same("out(" + a + ", -1)", n, () -> model.out(a, -1));
            int[] bytes = new int[Math.max(0, n)];
            for (int i = 0; i < n; i++) {
                int at = i;
                bytes[i] = log.out(a, i);
                same("out(" + a + ", " + i + ")", bytes[i], () -> model.out(a, at));
            }
            if (below(3) == 0) {
                bytes[below(6) == 0 ? below(14) : below(n)] ^= 1 << below(8);
                if (below(2) == 0) put(bytes, n - 8, digest(bytes, 0, n - 8), 8);
            }
            same("wipe()", log.wipe(), () -> model.wipe());
            for (int b : bytes) feed(b, 1);
            if (below(10) == 0) feed(0, 1);
            same("in()", log.in(), () -> model.in());
        }

        void ask() {
            int a = aMark();
            int p = aPart();
            int k = below(6) - 2;
            switch (below(12)) {
                case 0: same("usable()", log.usable(), () -> model.usable()); break;
                case 1: same("whole(" + a + ")", log.whole(a), () -> model.whole(a)); break;
                case 2: same("marks(" + k + ")", log.marks(k), () -> model.marks(k)); break;
                case 3: same("markOf(" + a + ", " + k + ")", log.markOf(a, k), () -> model.markOf(a, k)); break;
                case 4: case 5: { int w = below(8) - 1; same("partOf(" + p + ", " + w + ")", log.partOf(p, w), () -> model.partOf(p, w)); break; }
                case 6: { int i = below(8) == 0 ? below(160) - 1 : below(40); same("partByte(" + p + ", " + i + ")", log.partByte(p, i), () -> model.partByte(p, i)); break; }
                case 7: same("named(" + p + ")", log.named(p), () -> model.named(p)); break;
                case 8: same("badAt()", log.badAt(), () -> model.badAt()); break;
                case 9: { int i = below(5) == 0 ? -1 : below(60) - 2; same("out(" + a + ", " + i + ")", log.out(a, i), () -> model.out(a, i)); break; }
                default: { int w = below(19) - 1; same("told(" + w + ")", log.told(w), () -> model.told(w)); break; }
            }
        }

        /** All that can be asked without a change. */
        void askAll() {
            for (int w = -1; w <= 17; w++) { int x = w; same("told(" + w + ")", log.told(w), () -> model.told(x)); }
            for (int r = 0; r < model.m.length; r++) {
                for (int i = 0; i < 32; i++) {
                    if (log.byteAt(r, i) != model.m[r][i]) {
                        int x = r, y = i;
                        same("byteAt(" + r + ", " + i + ")", log.byteAt(r, i), () -> model.byteAt(x, y));
                    }
                }
            }
            same("badAt()", log.badAt(), () -> model.badAt());
            same("usable()", log.usable(), () -> model.usable());
            same("marks(-1)", log.marks(-1), () -> model.marks(-1));
            for (int k = 0; k <= model.kept.size(); k++) { int x = k; same("marks(" + k + ")", log.marks(k), () -> model.marks(x)); }
            List<Integer> all = new ArrayList<>(model.kept.keySet());
            all.addAll(model.made.keySet());
            for (int a : all) {
                same("whole(" + a + ")", log.whole(a), () -> model.whole(a));
                for (int k = -1; k <= 12; k++) { int x = k; same("markOf(" + a + ", " + k + ")", log.markOf(a, k), () -> model.markOf(a, x)); }
            }
            for (Map.Entry<Integer, P> e : model.parts.entrySet()) {
                int p = e.getKey();
                for (int w = 0; w < 6; w++) { int x = w; same("partOf(" + p + ", " + w + ")", log.partOf(p, w), () -> model.partOf(p, x)); }
            }
        }

        void go() {
            for (int k = 0; k < 220; k++) {
                step();
                if (k % 20 == 19) askAll();
            }
            reopen();
            askAll();
        }
    }

    public static void main(String[] args) {
        int runs = args.length > 0 ? Integer.parseInt(args[0]) : 1500;
        for (long seed = 1; seed <= runs && wrong < 3; seed++) {
            try {
                new Run(seed).go();
            } catch (IllegalStateException stop) {
                System.out.println("seed " + seed);
            }
        }
        System.out.println(wrong == 0 ? "all runs are as the model's" : wrong + " runs are not as the model's");
        System.out.println("answers: plain " + seen[0] + ", NONE " + seen[1] + ", BAD " + seen[2] + ", CLOSED " + seen[3]
            + ", FULL " + seen[4] + ", LOST " + seen[5]);
        if (wrong != 0) System.exit(1);
    }
}

import java.util.ArrayList;
import java.util.List;
import java.util.TreeMap;

/**
 * The document read a second time, in its slowest and plainest form: every value is found anew from its definition,
 * every state is a copy, and positions covered by three clips are counted one by one. ModelTest compares.
 */
final class PlainMixer {
    record Point(int value, boolean hold) {
    }

    record Clip(int track, int source, int start, int offset, int length, int gain, int in, int out, int curve) {
        int end() {
            return start + length;
        }

        boolean covers(int n) {
            return start <= n && n < end();
        }

        Clip at(int s) {
            return new Clip(track, source, s, offset, length, gain, in, out, curve);
        }

        Clip trimmed(int front, int back) {
            int l = length - front - back;
            return new Clip(track, source, start + front, offset + front, l, gain, Math.min(in, l), Math.min(out, l),
                    curve);
        }

        Clip faded(int i, int o, int c) {
            return new Clip(track, source, start, offset, length, gain, i, o, c);
        }

        int[] all() {
            return new int[] {track, source, start, offset, length, gain, in, out, curve};
        }
    }

    static final class Memory {
        int[][] sources = new int[6][];
        List<Clip> clips = new ArrayList<>();
        int[][] tracks = new int[4][];
        List<TreeMap<Integer, Point>> lanes = new ArrayList<>();
        int[][] ducks = new int[4][];
        int master = 1000;
        int head = 0;
        int from = 0;
        int to = 4000;
        long[] meters = {0, 0, 0, 0, 7};

        Memory copy() {
            Memory m = new Memory();
            for (int k = 0; k < 6; k++) {
                m.sources[k] = sources[k].clone();
            }
            m.clips = new ArrayList<>(clips);
            for (int t = 0; t < 4; t++) {
                m.tracks[t] = tracks[t].clone();
                m.lanes.add(new TreeMap<>(lanes.get(t)));
                m.ducks[t] = ducks[t] == null ? null : ducks[t].clone();
            }
            m.master = master;
            m.head = head;
            m.from = from;
            m.to = to;
            m.meters = meters.clone();
            return m;
        }
    }

    private Memory m = new Memory();
    private final List<Memory> stack = new ArrayList<>();

    PlainMixer() {
        for (int k = 0; k < 6; k++) {
            m.sources[k] = new int[] {0, 0, 1, 4000};
        }
        for (int t = 0; t < 4; t++) {
            m.tracks[t] = new int[] {1000, 0, 0, 0};
            m.lanes.add(new TreeMap<>());
        }
    }

    private static void bounds(boolean fine) {
        if (!fine) {
            throw new IndexOutOfBoundsException();
        }
    }

    private static void argument(boolean fine) {
        if (!fine) {
            throw new IllegalArgumentException();
        }
    }

    private static void state(boolean fine) {
        if (!fine) {
            throw new IllegalStateException();
        }
    }

    private static boolean in(long v, long a, long b) {
        return a <= v && v <= b;
    }

    private void save() {
        stack.add(m.copy());
        if (stack.size() > 4) {
            stack.remove(0);
        }
    }

    private static List<Clip> legal(List<Clip> clips) {
        List<Clip> sorted = new ArrayList<>(clips);
        sorted.sort((p, q) -> p.track != q.track ? p.track - q.track : p.start - q.start);
        int[][] covered = new int[4][4000];
        for (int i = 0; i < sorted.size(); i++) {
            Clip p = sorted.get(i);
            for (int n = p.start; n < p.end(); n++) {
                covered[p.track][n]++;
                if (covered[p.track][n] > 2) {
                    throw new UnsupportedOperationException();
                }
            }
            for (int j = 0; j < sorted.size(); j++) {
                Clip q = sorted.get(j);
                if (i != j && p.track == q.track && (p.start == q.start || p.end() == q.end()
                        || (p.start < q.start) != (p.end() < q.end()))) {
                    throw new UnsupportedOperationException();
                }
            }
        }
        return sorted;
    }

    private int keep(List<Clip> clips, Clip asked) {
        List<Clip> sorted = legal(clips);
        save();
        m.clips = sorted;
        return asked == null ? -1 : sorted.indexOf(asked);
    }

    int setSource(int s, int shape, int a, int p, int length) {
        bounds(in(s, 0, 5));
        argument(in(shape, 0, 3) && in(a, 0, 10000) && in(p, 1, 1000) && in(length, 1, 4000));
        save();
        int before = m.sources[s][3];
        m.sources[s] = new int[] {shape, a, p, length};
        return before;
    }

    int sample(int s, int i) {
        bounds(in(s, 0, 5));
        bounds(in(i, 0, m.sources[s][3] - 1));
        long shape = m.sources[s][0];
        long a = m.sources[s][1];
        long p = m.sources[s][2];
        long q = i % p;
        long x = (1103515245L * (i + 1) + 12345 * p) % 2147483648L;
        return (int) (shape == 0 ? a : shape == 1 ? (2 * q < p ? a : -a)
                : shape == 2 ? Math.floorDiv(2 * a * q, p) - a : Math.floorDiv(x, 65536L) % (2 * a + 1) - a);
    }

    int addClip(int track, int source, int start, int offset, int length, int gain) {
        argument(in(track, 0, 3) && in(source, 0, 5) && in(start, 0, 3999) && in(offset, 0, 3999)
                && in(length, 1, 4000L - start) && in(gain, 0, 2000));
        state(m.clips.size() < 12);
        Clip c = new Clip(track, source, start, offset, length, gain, 0, 0, 0);
        List<Clip> next = new ArrayList<>(m.clips);
        next.add(c);
        return keep(next, c);
    }

    private Clip find(int c) {
        bounds(in(c, 0, m.clips.size() - 1));
        return m.clips.get(c);
    }

    private List<Clip> without(Clip c) {
        List<Clip> next = new ArrayList<>(m.clips);
        next.remove(c);
        return next;
    }

    int setFades(int c, int i, int o, int curve) {
        Clip old = find(c);
        argument(in(i, 0, 4000) && in(o, 0, 4000) && in(curve, 0, 1));
        List<Clip> next = without(old);
        next.add(old.faded(i, o, curve));
        keep(next, null);
        return old.in;
    }

    int moveClip(int c, int start) {
        Clip old = find(c);
        argument(in(start, 0, 4000 - old.length));
        List<Clip> next = without(old);
        next.add(old.at(start));
        return keep(next, old.at(start));
    }

    int trimClip(int c, int front, int back) {
        Clip old = find(c);
        argument(front >= 0 && back >= 0 && (long) front + back < old.length && old.offset + front <= 3999);
        List<Clip> next = without(old);
        next.add(old.trimmed(front, back));
        keep(next, null);
        return old.length - front - back;
    }

    int splitClip(int c, int n) {
        Clip old = find(c);
        argument(old.start < n && n < old.end() && old.offset + n - old.start <= 3999);
        state(m.clips.size() < 12);
        Clip one = old.trimmed(0, old.end() - n);
        Clip two = old.trimmed(n - old.start, 0);
        one = one.faded(one.in, 0, one.curve);
        two = two.faded(0, two.out, two.curve);
        List<Clip> next = without(old);
        next.add(one);
        next.add(two);
        return keep(next, two);
    }

    int removeClip(int c) {
        Clip old = find(c);
        keep(without(old), null);
        return m.clips.size();
    }

    int deleteTime(int track, int from, int to) {
        bounds(in(track, 0, 3));
        argument(in(to, 1, 4000) && in(from, 0, to - 1));
        List<Clip> next = new ArrayList<>();
        int removed = 0;
        for (Clip c : m.clips) {
            int inside = 0;
            for (int n = c.start; n < c.end(); n++) {
                inside += in(n, from, to - 1) ? 1 : 0;
            }
            if (c.track != track) {
                next.add(c);
            } else if (inside == c.length) {
                removed++;
            } else {
                if (inside > 0) {
                    c = c.start < from ? c.trimmed(0, c.end() - from) : c.trimmed(inside, 0);
                    argument(c.offset <= 3999);
                }
                next.add(c.start >= to ? c.at(c.start - (to - from)) : c);
            }
        }
        keep(next, null);
        return removed;
    }

    int clips() {
        return m.clips.size();
    }

    int clip(int c, int what) {
        Clip old = find(c);
        argument(in(what, 0, 8));
        return old.all()[what];
    }

    private static long gained(long v, long g) {
        return Math.floorDiv(v * g, 1000L);
    }

    private long fade(long v, int i, int length, int curve) {
        if (i >= length) {
            return v;
        }
        long f = 1000L * i / length;
        return gained(v, curve == 1 ? f * f / 1000 : f);
    }

    private long raw(Clip c, int n) {
        int i = n - c.start;
        long v = c.offset + i < m.sources[c.source][3] ? sample(c.source, c.offset + i) : 0;
        v = fade(gained(v, c.gain), i, c.in, c.curve);
        return fade(v, c.length - 1 - i, c.out, c.curve);
    }

    int clipValue(int c, int n) {
        Clip old = find(c);
        argument(old.covers(n));
        return (int) raw(old, n);
    }

    int setTrack(int t, int gain, int pan, boolean muted, boolean solo) {
        bounds(in(t, 0, 3));
        argument(in(gain, 0, 2000) && in(pan, -100, 100));
        save();
        int before = m.tracks[t][0];
        m.tracks[t] = new int[] {gain, pan, muted ? 1 : 0, solo ? 1 : 0};
        return before;
    }

    int setPoint(int t, int n, int value, boolean hold) {
        bounds(in(t, 0, 3));
        argument(in(n, 0, 3999) && in(value, 0, 2000));
        state(m.lanes.get(t).containsKey(n) || m.lanes.get(t).size() < 8);
        save();
        m.lanes.get(t).put(n, new Point(value, hold));
        return m.lanes.get(t).size();
    }

    int removePoint(int t, int n) {
        bounds(in(t, 0, 3));
        argument(m.lanes.get(t).containsKey(n));
        save();
        m.lanes.get(t).remove(n);
        return m.lanes.get(t).size();
    }

    int automation(int t, int n) {
        bounds(in(t, 0, 3));
        argument(in(n, 0, 3999));
        TreeMap<Integer, Point> lane = m.lanes.get(t);
        if (lane.isEmpty()) {
            return 1000;
        }
        if (n <= lane.firstKey()) {
            return lane.firstEntry().getValue().value;
        }
        if (n >= lane.lastKey()) {
            return lane.lastEntry().getValue().value;
        }
        var p = lane.floorEntry(n);
        var q = lane.higherEntry(n);
        return p.getValue().hold ? p.getValue().value : p.getValue().value + Math.floorDiv(
                (q.getValue().value - p.getValue().value) * (n - p.getKey()), q.getKey() - p.getKey());
    }

    private long dry(int t, int n) {
        List<Clip> on = new ArrayList<>();
        for (Clip c : m.clips) {
            if (c.track == t && c.covers(n)) {
                on.add(c);
            }
        }
        long v = on.isEmpty() ? 0 : raw(on.get(0), n);
        if (on.size() == 2) {
            int s = on.get(1).start;
            int e = on.get(0).end();
            long w = Math.floorDiv(1000L * (n - s), (long) (e - s));
            v = gained(v, 1000 - w) + gained(raw(on.get(1), n), w);
        }
        return gained(gained(v, m.tracks[t][0]), automation(t, n));
    }

    int duck(int t, int key, int threshold, int floor, int attack, int release) {
        bounds(in(t, 0, 3));
        argument(in(key, 0, 3) && in(threshold, 0, 100000) && in(floor, 0, 1000) && in(attack, 1, 1000)
                && in(release, 1, 1000));
        state(key != t && m.ducks[key] == null);
        for (int[] d : m.ducks) {
            state(d == null || d[0] != t);
        }
        save();
        int before = m.ducks[t] == null ? -1 : m.ducks[t][0];
        m.ducks[t] = new int[] {key, threshold, floor, attack, release};
        return before;
    }

    int endDuck(int t) {
        bounds(in(t, 0, 3));
        save();
        int before = m.ducks[t] == null ? -1 : m.ducks[t][0];
        m.ducks[t] = null;
        return before;
    }

    int duckGain(int t, int n) {
        bounds(in(t, 0, 3));
        argument(in(n, 0, 3999));
        if (m.ducks[t] == null) {
            return 1000;
        }
        int[] d = m.ducks[t];
        int before = 1000;
        int end = 1000;
        for (int w = 1; w <= n / 40; w++) {
            long level = 0;
            for (int k = 0; k < 40; k++) {
                level = Math.max(level, Math.abs(dry(d[0], 40 * (w - 1) + k)));
            }
            before = end;
            end = level >= d[1] ? Math.max(d[2], before - d[3]) : Math.min(1000, before + d[4]);
        }
        return before + Math.floorDiv((end - before) * (n % 40), 40);
    }

    int trackValue(int t, int n) {
        bounds(in(t, 0, 3));
        argument(in(n, 0, 3999));
        return (int) (m.ducks[t] == null ? dry(t, n) : gained(dry(t, n), duckGain(t, n)));
    }

    boolean isAudible(int t) {
        bounds(in(t, 0, 3));
        boolean some = false;
        for (int[] k : m.tracks) {
            some |= k[3] == 1;
        }
        return m.tracks[t][2] == 0 && (!some || m.tracks[t][3] == 1);
    }

    int setMaster(int gain) {
        argument(in(gain, 0, 2000));
        save();
        int before = m.master;
        m.master = gain;
        return before;
    }

    private long full(int n, boolean right) {
        long sum = 0;
        for (int t = 0; t < 4; t++) {
            if (isAudible(t)) {
                int p = m.tracks[t][1];
                sum += Math.floorDiv((long) trackValue(t, n) * (right ? 100 + Math.min(0, p) : 100 - Math.max(0, p)),
                        100L);
            }
        }
        return gained(sum, m.master);
    }

    int mix(int n, boolean right) {
        argument(in(n, 0, 3999));
        long v = full(n, right);
        return (int) (v > 32767 ? 32767 : v < -32767 ? -32767 : v);
    }

    int setLoop(int from, int to) {
        argument(in(to, 1, 4000) && in(from, 0, to - 1));
        save();
        int before = m.from;
        m.from = from;
        m.to = to;
        return before;
    }

    int seek(int n) {
        argument(in(n, 0, 3999));
        save();
        int before = m.head;
        m.head = n;
        return before;
    }

    int render(int count) {
        argument(in(count, 1, 1000));
        save();
        for (int k = 0; k < count; k++) {
            m.meters[0]++;
            for (int side = 0; side < 2; side++) {
                long v = full(m.head, side == 1);
                int limited = mix(m.head, side == 1);
                m.meters[1 + side] = Math.max(m.meters[1 + side], Math.abs(limited));
                m.meters[3] += v == limited ? 0 : 1;
                m.meters[4] = 31 * m.meters[4] + limited;
            }
            m.head++;
            if (m.head == m.to || m.head == 4000) {
                m.head = m.from;
            }
        }
        return m.head;
    }

    long meter(int what) {
        argument(in(what, 0, 4));
        return m.meters[what];
    }

    long clearMeters() {
        save();
        long before = m.meters[0];
        m.meters = new long[] {0, 0, 0, 0, 7};
        return before;
    }

    int length() {
        int end = 0;
        for (Clip c : m.clips) {
            end = Math.max(end, c.end());
        }
        return end;
    }

    int undo() {
        state(!stack.isEmpty());
        m = stack.remove(stack.size() - 1);
        return stack.size();
    }

    long digest() {
        List<Long> v = new ArrayList<>();
        for (long k : new long[] {stack.size(), m.head, m.from, m.to, m.master}) {
            v.add(k);
        }
        for (long k : m.meters) {
            v.add(k);
        }
        for (int[] s : m.sources) {
            for (int k : s) {
                v.add((long) k);
            }
        }
        v.add((long) clips());
        for (Clip c : m.clips) {
            for (int k : c.all()) {
                v.add((long) k);
            }
        }
        for (int t = 0; t < 4; t++) {
            for (int k : m.tracks[t]) {
                v.add((long) k);
            }
            v.add((long) m.lanes.get(t).size());
            for (var e : m.lanes.get(t).entrySet()) {
                v.add((long) e.getKey());
                v.add((long) e.getValue().value);
                v.add(e.getValue().hold ? 1L : 0L);
            }
            if (m.ducks[t] == null) {
                v.add(-1L);
            } else {
                for (int k : m.ducks[t]) {
                    v.add((long) k);
                }
            }
        }
        for (int n = 0; n < 4000; n += 50) {
            v.add((long) mix(n, false));
            v.add((long) mix(n, true));
        }
        long h = 18363;
        for (long k : v) {
            h = 31 * h + k;
        }
        return h;
    }
}

import java.util.function.LongSupplier;

/** Long runs of calls, ordinary and wrong ones mixed, on the mixer and on PlainMixer at once. */
public final class ModelTest {
    private static final int RUNS = 40;
    private static final int CALLS = 400;
    private static final int METHODS = 31;
    private static final int[] ODD = {-1, 0, 1, 3999, 4000, 4001, 2000, 2001, 1000, 1001, Integer.MAX_VALUE,
        Integer.MIN_VALUE, Integer.MAX_VALUE - 3999};

    private long seed;
    private boolean isOdd;
    private final ClipMixer x = new ClipMixer();
    private final PlainMixer y = new PlainMixer();

    private ModelTest(int run) {
        seed = 1000003L * run + 12345;
    }

    public static void main(String[] args) {
        int runs = args.length == 0 ? RUNS : Integer.parseInt(args[0]);
        for (int run = 0; run < runs; run++) {
            new ModelTest(run).run(run);
        }
        Check.end();
    }

    private int below(int bound) {
        seed = seed * 6364136223846793005L + 1442695040888963407L;
        return (int) ((seed >>> 33) % bound);
    }

    // One call in eight takes odd arguments here and there.
    private int pick(int least, int greatest) {
        if (isOdd && below(3) == 0) {
            return below(4) == 0 ? greatest + 1 : ODD[below(ODD.length)];
        }
        return least + below(greatest - least + 1);
    }

    private boolean flip() {
        return below(3) == 0;
    }

    // Near positions make conflicts and crossfades, far ones the rest.
    private int position() {
        if (below(3) == 0) {
            return edge();
        }
        return below(2) == 0 ? pick(0, 399) : pick(0, 3999);
    }

    // The start or the end of a clip or the edge of a window, or the position before or behind it.
    private int edge() {
        int at = 40 * below(101);
        if (y.clips() > 0 && below(4) != 0) {
            int c = below(y.clips());
            at = y.clip(c, 2) + below(2) * y.clip(c, 4);
        }
        return at + below(3) - 1;
    }

    private int size(int from) {
        if (below(4) == 0) {
            return Math.abs(edge() - from);
        }
        return below(3) == 0 ? pick(1, 2000) : pick(1, 200);
    }

    private int front(int c) {
        return isClip(c) && below(3) == 0 ? edge() - y.clip(c, 2) : below(40);
    }

    private int back(int c) {
        return isClip(c) && below(3) == 0 ? y.clip(c, 2) + y.clip(c, 4) - edge() : below(40);
    }

    private boolean isClip(int c) {
        return c >= 0 && c < y.clips();
    }

    private int number() {
        return pick(0, Math.max(0, y.clips() - (isOdd ? 0 : 1)));
    }

    private static String answer(LongSupplier call) {
        try {
            return Long.toString(call.getAsLong());
        } catch (RuntimeException e) {
            return e.getClass().getSimpleName();
        }
    }

    private void run(int run) {
        for (int call = 0; call < CALLS; call++) {
            isOdd = below(8) == 0;
            int method = call < 12 ? 2 * below(2) : below(METHODS);
            int n = position();
            step("run " + run + ", call " + call + ", method " + method, method, n, size(n));
            if (call % 20 == 19) {
                both("digest() in run " + run + ", call " + call, () -> x.digest(), () -> y.digest());
            }
        }
    }

    private void both(String what, LongSupplier one, LongSupplier other) {
        Check.same(what, answer(one), answer(other));
    }

    private void step(String what, int method, int n, int l) {
        int t = pick(0, 3);
        int c = number();
        int s = pick(0, 5);
        if (method < 10) {
            edit(what, method, n, l, t, c, s);
        } else if (method < 20) {
            track(what, method, n, l, t, pick(0, 3));
        } else {
            play(what, method, n, l, t, c, s);
        }
    }

    private void edit(String what, int method, int n, int l, int t, int c, int s) {
        int a = pick(0, 2000);
        int b = pick(0, 3);
        int o = below(4) == 0 ? pick(0, 3999) : pick(0, 50);
        switch (method) {
            case 0 -> both(what, () -> x.setSource(s, b, 5 * a, l, 2 * l), () -> y.setSource(s, b, 5 * a, l, 2 * l));
            case 1 -> both(what, () -> x.addClip(t, s, n, 0, l, 1000), () -> y.addClip(t, s, n, 0, l, 1000));
            case 2 -> both(what, () -> x.addClip(t, s, n, o, l, a), () -> y.addClip(t, s, n, o, l, a));
            case 3 -> both(what, () -> x.setFades(c, l, n, b), () -> y.setFades(c, l, n, b));
            case 4 -> both(what, () -> x.setFades(c, o, o, b % 2), () -> y.setFades(c, o, o, b % 2));
            case 5 -> both(what, () -> x.moveClip(c, n), () -> y.moveClip(c, n));
            case 6 -> {
                int front = isOdd ? o : front(c);
                int back = isOdd ? l / 8 : back(c);
                both(what, () -> x.trimClip(c, front, back), () -> y.trimClip(c, front, back));
            }
            case 7 -> {
                int at = isOdd || !isClip(c) ? n : y.clip(c, 2) + l / 4;
                both(what, () -> x.splitClip(c, at), () -> y.splitClip(c, at));
            }
            case 8 -> both(what, () -> x.removeClip(c), () -> y.removeClip(c));
            default -> both(what, () -> x.deleteTime(t, n, n + l), () -> y.deleteTime(t, n, n + l));
        }
    }

    private void track(String what, int method, int n, int l, int t, int k) {
        int a = pick(0, 1000);
        int b = pick(1, 1000);
        int p = pick(-100, 100);
        boolean f = flip();
        boolean g = flip();
        switch (method) {
            case 10 -> both(what, () -> x.setTrack(t, 2 * a, p, f, g), () -> y.setTrack(t, 2 * a, p, f, g));
            case 11, 12 -> both(what, () -> x.setPoint(t, n, 2 * a, f), () -> y.setPoint(t, n, 2 * a, f));
            case 13 -> both(what, () -> x.removePoint(t, n), () -> y.removePoint(t, n));
            case 14 -> both(what, () -> x.automation(t, n), () -> y.automation(t, n));
            case 15, 16 -> both(what, () -> x.duck(t, k, 3 * a, a, b / 2, l), () -> y.duck(t, k, 3 * a, a, b / 2, l));
            case 17 -> both(what, () -> x.endDuck(t), () -> y.endDuck(t));
            case 18 -> both(what, () -> x.duckGain(t, n), () -> y.duckGain(t, n));
            default -> both(what, () -> x.trackValue(t, n), () -> y.trackValue(t, n));
        }
    }

    private void play(String what, int method, int n, int l, int t, int c, int s) {
        int a = pick(0, 2000);
        int b = pick(0, 8);
        boolean f = flip();
        switch (method) {
            case 20 -> both(what, () -> x.setMaster(a), () -> y.setMaster(a));
            case 21 -> both(what, () -> x.setLoop(n, n + l), () -> y.setLoop(n, n + l));
            case 22 -> both(what, () -> x.seek(n), () -> y.seek(n));
            case 23 -> both(what, () -> x.render(l / 8), () -> y.render(l / 8));
            case 24 -> both(what, () -> x.meter(b), () -> y.meter(b));
            case 25 -> both(what, () -> x.clearMeters(), () -> y.clearMeters());
            case 26 -> both(what, () -> x.undo(), () -> y.undo());
            case 27 -> both(what, () -> x.mix(n, f), () -> y.mix(n, f));
            case 28 -> both(what, () -> x.clip(c, b) + x.length(), () -> y.clip(c, b) + y.length());
            case 29 -> both(what, () -> x.clipValue(c, n), () -> y.clipValue(c, n));
            default -> both(what, () -> x.sample(s, n) + (x.isAudible(t) ? 1 : 0),
                    () -> y.sample(s, n) + (y.isAudible(t) ? 1 : 0));
        }
    }
}

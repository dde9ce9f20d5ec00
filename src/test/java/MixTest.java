/** Promises 1, 23 to 29, 31 and 32: the mix, the playhead, the meters, undo and the digest. */
public final class MixTest {
    private static final Class<?> ARGUMENT = IllegalArgumentException.class;
    private static final Class<?> STATE = IllegalStateException.class;

    public static void main(String[] args) {
        newMixer();
        setMaster();
        mix();
        limiter();
        panorama();
        transport();
        render();
        loopAndEnd();
        meters();
        undo();
        undoOfMeters();
        digest();
        Check.end();
    }

    private static ClipMixer withTone(int amplitude) {
        ClipMixer x = new ClipMixer();
        x.setSource(0, ClipMixer.CONSTANT, amplitude, 1, 4000);
        x.addClip(0, 0, 0, 0, 4000, 1000);
        return x;
    }

    private static void newMixer() {
        ClipMixer x = new ClipMixer();
        Check.same("clips()", x.clips(), 0);
        Check.same("length()", x.length(), 0);
        Check.same("mix()", x.mix(0, false), 0);
        long[] meters = {0, 0, 0, 0, 7};
        for (int k = 0; k < meters.length; k++) {
            Check.same("meter(" + k + ")", x.meter(k), meters[k]);
        }
        Check.fails("undo() of a new mixer", x, STATE, () -> x.undo());
        Check.same("the playhead", x.seek(0), 0);
        Check.same("from", x.setLoop(5, 6), 0);
        Check.same("the master gain", x.setMaster(5), 1000);
        Check.same("the gain of a track", x.setTrack(3, 5, 0, false, false), 1000);
        Check.same("the key of a track", x.endDuck(3), -1);
        Check.same("the automation of a track", x.automation(3, 0), 1000);
        ClipMixer other = new ClipMixer();
        Check.same("mixers know nothing of each other", other.setMaster(5), 1000);
    }

    private static void setMaster() {
        ClipMixer x = withTone(1001);
        Check.same("setMaster", x.setMaster(500), 1000);
        Check.same("setMaster again", x.setMaster(500), 500);
        Check.same("the mix is quieter", x.mix(0, true), 500);
        Check.same("the gain 0", x.setMaster(0), 500);
        Check.same("the mix is silent", x.mix(0, true), 0);
        Check.fails("gain -1", x, ARGUMENT, () -> x.setMaster(-1));
        Check.fails("gain 2001", x, ARGUMENT, () -> x.setMaster(2001));
        Check.undoable("setMaster", x, () -> x.setMaster(2000));
    }

    private static void mix() {
        ClipMixer x = withTone(1000);
        x.setSource(1, ClipMixer.SQUARE, 333, 2, 4000);
        x.addClip(1, 1, 10, 0, 10, 1000);
        Check.same("one track", x.mix(9, false), 1000);
        Check.same("two tracks", x.mix(10, false), 1333);
        Check.same("two tracks, one negative", x.mix(11, true), 667);
        x.setTrack(0, 1000, 0, true, false);
        Check.same("one is muted", x.mix(11, true), -333);
        x.setMaster(500);
        Check.same("the master gain rounds down", x.mix(11, true), -167);
        x.setTrack(0, 1000, 0, false, true);
        Check.same("the other one is solo", x.mix(11, true), 500);
        x.duck(0, 1, 1, 0, 1000, 1);
        Check.same("ducked", x.mix(60, false), 250);
        Check.fails("position -1", x, ARGUMENT, () -> x.mix(-1, false));
        Check.fails("position 4000", x, ARGUMENT, () -> x.mix(4000, true));
    }

    private static void limiter() {
        ClipMixer x = new ClipMixer();
        x.setSource(0, ClipMixer.SQUARE, 10000, 2, 4000);
        x.addClip(0, 0, 0, 0, 100, 2000);
        x.setMaster(2000);
        x.setTrack(0, 1000, 10, false, false);
        Check.same("limited above", x.mix(0, true), 32767);
        Check.same("limited above on the left", x.mix(0, false), 32767);
        Check.same("limited below", x.mix(1, true), -32767);
        x.render(2);
        Check.same("clipped samples", x.meter(3), 4);
        x.setTrack(0, 1000, 50, false, false);
        x.render(2);
        Check.same("clipped on one side", x.meter(3), 6);
        x.setMaster(1000);
        x.setSource(0, ClipMixer.CONSTANT, 8192, 2, 4000);
        x.setTrack(0, 2000, 0, false, false);
        Check.same("one too many", x.mix(0, true), 32767);
        x.render(1);
        Check.same("one too many is clipped", x.meter(3), 8);
        x.setSource(0, ClipMixer.CONSTANT, 8191, 2, 4000);
        x.render(1);
        Check.same("below the limit", x.mix(0, true), 32764);
        Check.same("below the limit is not clipped", x.meter(3), 8);
        x.clearMeters();
        Check.same("no clipped samples any more", x.meter(3), 0);
    }

    private static void panorama() {
        ClipMixer x = new ClipMixer();
        x.setSource(0, ClipMixer.SQUARE, 333, 2, 4000);
        x.addClip(0, 0, 0, 0, 100, 1000);
        int[][] due = {{0, 333, 333, -333, -333}, {100, 0, 333, 0, -333}, {-100, 333, 0, -333, 0},
            {1, 329, 333, -330, -333}, {-1, 333, 329, -333, -330}};
        for (int[] d : due) {
            x.setTrack(0, 1000, d[0], false, false);
            Check.same("left of " + d[0], x.mix(0, false), d[1]);
            Check.same("right of " + d[0], x.mix(0, true), d[2]);
            Check.same("negative left of " + d[0], x.mix(1, false), d[3]);
            Check.same("negative right of " + d[0], x.mix(1, true), d[4]);
        }
    }

    private static void transport() {
        ClipMixer x = new ClipMixer();
        Check.same("setLoop", x.setLoop(3999, 4000), 0);
        Check.same("setLoop again", x.setLoop(0, 1), 3999);
        Check.fails("from is to", x, ARGUMENT, () -> x.setLoop(1, 1));
        Check.fails("from -1", x, ARGUMENT, () -> x.setLoop(-1, 1));
        Check.fails("to 0", x, ARGUMENT, () -> x.setLoop(-1, 0));
        Check.fails("to 4001", x, ARGUMENT, () -> x.setLoop(0, 4001));
        Check.undoable("setLoop", x, () -> x.setLoop(5, 10));
        Check.same("seek", x.seek(3999), 0);
        Check.same("seek again", x.seek(7), 3999);
        Check.fails("seek -1", x, ARGUMENT, () -> x.seek(-1));
        Check.fails("seek 4000", x, ARGUMENT, () -> x.seek(4000));
        Check.undoable("seek", x, () -> x.seek(8));
    }

    private static ClipMixer withDucking() {
        ClipMixer x = withTone(5);
        x.setSource(1, ClipMixer.NOISE, 3000, 1, 4000);
        x.addClip(1, 1, 100, 0, 3000, 1000);
        x.duck(0, 1, 2990, 0, 100, 50);
        return x;
    }

    private static void render() {
        ClipMixer x = withDucking();
        Check.same("render", x.render(1000), 1000);
        long k = 7;
        for (int n = 0; n < 1000; n++) {
            ClipMixer looked = withDucking();
            k = 31 * k + looked.mix(n, false);
            k = 31 * k + looked.mix(n, true);
        }
        Check.same("the check sum of the mix", x.meter(4), k);
        for (int piece : new int[] {2, 7, 40, 333, 999}) {
            renderInPieces(x, piece);
        }
        Check.fails("count 0", x, ARGUMENT, () -> x.render(0));
        Check.fails("count -1", x, ARGUMENT, () -> x.render(-1));
        Check.fails("count 1001", x, ARGUMENT, () -> x.render(1001));
        Check.undoable("render", x, () -> x.render(7));
    }

    private static void renderInPieces(ClipMixer whole, int piece) {
        ClipMixer x = withDucking();
        for (int n = 0; n < 1000; n += piece) {
            x.render(Math.min(piece, 1000 - n));
        }
        for (int what = 0; what <= 4; what++) {
            Check.same("meter(" + what + ") in pieces of " + piece, x.meter(what), whole.meter(what));
        }
    }

    private static void loopAndEnd() {
        ClipMixer x = new ClipMixer();
        x.setLoop(10, 12);
        x.seek(11);
        Check.same("to is reached", x.render(1), 10);
        Check.same("around the loop", x.render(5), 11);
        x.seek(5);
        Check.same("into the loop", x.render(8), 11);
        x.seek(12);
        Check.same("behind the loop", x.render(3), 15);
        x.seek(3998);
        Check.same("the end of the timeline", x.render(2), 10);
        x.setLoop(0, 4000);
        x.seek(3999);
        Check.same("the whole timeline", x.render(1), 0);
        x.setLoop(7, 8);
        x.seek(7);
        Check.same("a loop of one position", x.render(1000), 7);
    }

    private static void meters() {
        ClipMixer x = new ClipMixer();
        x.setSource(0, ClipMixer.SQUARE, 300, 2, 4000);
        x.addClip(0, 0, 0, 0, 4000, 1000);
        x.setTrack(0, 1000, -50, false, false);
        x.render(2);
        long k = 7;
        for (int sample : new int[] {300, 150, -300, -150}) {
            k = 31 * k + sample;
        }
        long[] due = {2, 300, 150, 0, k};
        for (int what = 0; what < due.length; what++) {
            Check.same("meter(" + what + ")", x.meter(what), due[what]);
        }
        x.seek(1);
        x.clearMeters();
        x.render(1);
        Check.same("the absolute value of a negative sample", x.meter(1), 300);
        x.setTrack(0, 0, 0, false, false);
        x.render(1000);
        Check.same("the greatest one stays", x.meter(2), 150);
        Check.same("rendered positions", x.meter(0), 1001);
        Check.undoable("clearMeters", x, () -> x.clearMeters());
        Check.same("clearMeters", x.clearMeters(), 1001);
        Check.same("the check sum is 7 again", x.meter(4), 7);
        Check.same("the meters are 0 again", x.meter(0) + x.meter(1) + x.meter(2) + x.meter(3), 0);
        Check.same("clearMeters again", x.clearMeters(), 0);
        Check.fails("what -1", x, ARGUMENT, () -> x.meter(-1));
        Check.fails("what 5", x, ARGUMENT, () -> x.meter(5));
    }

    private static void undo() {
        ClipMixer x = new ClipMixer();
        for (int k = 1; k <= 6; k++) {
            x.setMaster(100 * k);
        }
        for (int left = 3; left >= 0; left--) {
            Check.same("undo()", x.undo(), left);
        }
        Check.fails("a fifth undo()", x, STATE, () -> x.undo());
        Check.same("older states are dropped", x.setMaster(200), 200);
        Check.same("a call that changes nothing is saved", x.undo(), 0);
        x.setMaster(1);
        x.undo();
        x.setMaster(2);
        Check.same("undo() is not undone", x.undo(), 0);
        Check.same("the state of before", x.setMaster(2), 200);
    }

    private static void undoOfMeters() {
        ClipMixer x = withTone(9);
        x.setLoop(3, 30);
        x.render(10);
        x.render(25);
        x.undo();
        Check.same("rendered before", x.meter(0), 10);
        Check.same("the playhead before", x.seek(0), 10);
        x.undo();
        x.undo();
        Check.same("nothing rendered", x.meter(0), 0);
        Check.same("the check sum of nothing", x.meter(4), 7);
        Check.same("the loop stays", x.setLoop(0, 1), 3);
    }

    private static long hash(long... values) {
        long h = 18363;
        for (long v : values) {
            h = 31 * h + v;
        }
        return h;
    }

    private static void digest() {
        Check.same("digest() of a new mixer", new ClipMixer().digest(), hash(newState()));
        ClipMixer x = new ClipMixer();
        x.digest();
        x.setMaster(1000);
        long[] due = newState();
        due[0] = 1;
        Check.same("digest() counts the saved states", x.digest(), hash(due));
        ClipMixer y = withTone(40);
        long before = y.digest();
        y.digest();
        y.mix(3, true);
        y.trackValue(0, 77);
        Check.same("looking changes nothing", y.digest(), before);
    }

    private static long[] newState() {
        long[] values = new long[10 + 6 * 4 + 1 + 4 * 6 + 160];
        values[3] = 4000;
        values[4] = 1000;
        values[9] = 7;
        for (int s = 0; s < 6; s++) {
            values[10 + 4 * s + 2] = 1;
            values[10 + 4 * s + 3] = 4000;
        }
        for (int t = 0; t < 4; t++) {
            values[35 + 6 * t] = 1000;
            values[35 + 6 * t + 5] = -1;
        }
        return values;
    }
}

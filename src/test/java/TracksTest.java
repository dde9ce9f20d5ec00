/** Promises 14 to 22: tracks, automation and ducking. */
public final class TracksTest {
    private static final Class<?> BOUNDS = IndexOutOfBoundsException.class;
    private static final Class<?> ARGUMENT = IllegalArgumentException.class;
    private static final Class<?> STATE = IllegalStateException.class;

    public static void main(String[] args) {
        setTrack();
        points();
        manyPoints();
        automation();
        duck();
        duckKeys();
        duckGain();
        duckCurveIsKeptUpToDate();
        duckCurveForgetsNothing();
        duckAtEdgesOfWindows();
        trackValue();
        audible();
        Check.end();
    }

    private static ClipMixer withTone() {
        ClipMixer x = new ClipMixer();
        x.setSource(0, ClipMixer.CONSTANT, 1000, 1, 4000);
        x.addClip(0, 0, 0, 0, 4000, 1000);
        return x;
    }

    private static void setTrack() {
        ClipMixer x = withTone();
        Check.same("setTrack", x.setTrack(0, 2000, -100, true, true), 1000);
        Check.same("setTrack again", x.setTrack(0, 500, 100, false, false), 2000);
        Check.same("its gain", x.trackValue(0, 0), 500);
        Check.fails("no such track", x, BOUNDS, () -> x.setTrack(4, -1, 0, false, false));
        Check.fails("track -1", x, BOUNDS, () -> x.setTrack(-1, 0, 0, false, false));
        Check.fails("gain -1", x, ARGUMENT, () -> x.setTrack(0, -1, 0, false, false));
        Check.fails("gain 2001", x, ARGUMENT, () -> x.setTrack(0, 2001, 0, false, false));
        Check.fails("panorama -101", x, ARGUMENT, () -> x.setTrack(0, 0, -101, false, false));
        Check.fails("panorama 101", x, ARGUMENT, () -> x.setTrack(0, 0, 101, false, false));
        Check.undoable("setTrack", x, () -> x.setTrack(0, 1, 2, true, true));
    }

    private static void points() {
        ClipMixer x = new ClipMixer();
        Check.same("the first point", x.setPoint(1, 100, 500, false), 1);
        Check.same("another one", x.setPoint(1, 50, 600, true), 2);
        Check.same("replaced", x.setPoint(1, 50, 700, false), 2);
        Check.same("its value", x.automation(1, 50), 700);
        Check.same("it is a ramp now", x.automation(1, 75), 600);
        Check.fails("no such track", x, BOUNDS, () -> x.setPoint(4, -1, 0, false));
        Check.fails("position -1", x, ARGUMENT, () -> x.setPoint(0, -1, 0, false));
        Check.fails("position 4000", x, ARGUMENT, () -> x.setPoint(0, 4000, 0, false));
        Check.fails("value -1", x, ARGUMENT, () -> x.setPoint(0, 0, -1, false));
        Check.fails("value 2001", x, ARGUMENT, () -> x.setPoint(0, 0, 2001, false));
        Check.undoable("setPoint", x, () -> x.setPoint(1, 3999, 2000, true));
        Check.undoable("removePoint", x, () -> x.removePoint(1, 50));
        Check.fails("remove on no track", x, BOUNDS, () -> x.removePoint(-1, 50));
        Check.fails("remove no point", x, ARGUMENT, () -> x.removePoint(1, 51));
        Check.fails("remove at -1", x, ARGUMENT, () -> x.removePoint(1, -1));
        Check.fails("remove from an empty lane", x, ARGUMENT, () -> x.removePoint(2, 50));
        Check.same("removed", x.removePoint(1, 50), 1);
        Check.same("the other one is left", x.automation(1, 0), 500);
        Check.same("the last one removed", x.removePoint(1, 100), 0);
        Check.same("none is left", x.automation(1, 0), 1000);
    }

    private static void manyPoints() {
        ClipMixer x = new ClipMixer();
        for (int k = 0; k < 8; k++) {
            Check.same("point " + k, x.setPoint(0, 1000 - 10 * k, 100 * k, true), k + 1);
        }
        Check.fails("a ninth point", x, STATE, () -> x.setPoint(0, 5, 5, true));
        Check.fails("a ninth point out of range", x, ARGUMENT, () -> x.setPoint(0, 5, 2001, true));
        Check.same("one of eight replaced", x.setPoint(0, 970, 5, true), 8);
        Check.same("another lane has room", x.setPoint(1, 5, 5, true), 1);
        Check.same("removed from the middle", x.removePoint(0, 960), 7);
        Check.same("the hold before it goes on", x.automation(0, 969), 500);
        Check.same("room again", x.setPoint(0, 960, 5, true), 8);
    }

    private static void automation() {
        ClipMixer x = new ClipMixer();
        Check.same("no points", x.automation(3, 3999), 1000);
        x.setPoint(0, 100, 500, false);
        x.setPoint(0, 200, 0, true);
        x.setPoint(0, 203, 2000, false);
        x.setPoint(0, 206, 1999, true);
        int[][] due = {{0, 500}, {99, 500}, {100, 500}, {101, 495}, {199, 5}, {200, 0}, {202, 0}, {203, 2000},
            {204, 1999}, {205, 1999}, {206, 1999}, {3999, 1999}};
        for (int[] d : due) {
            Check.same("automation at " + d[0], x.automation(0, d[0]), d[1]);
        }
        Check.same("another lane", x.automation(1, 100), 1000);
        Check.fails("no such track", x, BOUNDS, () -> x.automation(4, -1));
        Check.fails("position -1", x, ARGUMENT, () -> x.automation(0, -1));
        Check.fails("position 4000", x, ARGUMENT, () -> x.automation(0, 4000));
    }

    private static void duck() {
        ClipMixer x = new ClipMixer();
        Check.same("duck", x.duck(0, 3, 0, 0, 1, 1), -1);
        Check.same("duck by another key", x.duck(0, 2, 100000, 1000, 1000, 1000), 3);
        Check.fails("no such track", x, BOUNDS, () -> x.duck(4, 9, 0, 0, 1, 1));
        int[][] bad = {{-1, 0, 0, 1, 1}, {4, 0, 0, 1, 1}, {1, -1, 0, 1, 1}, {1, 100001, 0, 1, 1}, {1, 0, -1, 1, 1},
            {1, 0, 1001, 1, 1}, {1, 0, 0, 0, 1}, {1, 0, 0, 1001, 1}, {1, 0, 0, 1, 0}, {1, 0, 0, 1, 1001}};
        for (int[] b : bad) {
            Check.fails("duck out of range", x, ARGUMENT, () -> x.duck(0, b[0], b[1], b[2], b[3], b[4]));
        }
        Check.undoable("duck", x, () -> x.duck(0, 1, 1, 1, 1, 1));
        Check.undoable("endDuck", x, () -> x.endDuck(0));
        Check.same("endDuck", x.endDuck(0), 2);
        Check.same("endDuck again", x.endDuck(0), -1);
        Check.undoable("endDuck of nothing", x, () -> x.endDuck(0));
        Check.fails("endDuck on no track", x, BOUNDS, () -> x.endDuck(4));
        Check.fails("endDuck on track -1", x, BOUNDS, () -> x.endDuck(-1));
    }

    private static void duckKeys() {
        ClipMixer x = new ClipMixer();
        Check.fails("the track itself", x, STATE, () -> x.duck(1, 1, 0, 0, 1, 1));
        Check.fails("the track itself, out of range", x, ARGUMENT, () -> x.duck(1, 1, 0, 0, 0, 1));
        x.duck(0, 1, 0, 0, 1, 1);
        Check.fails("a key that is ducked", x, STATE, () -> x.duck(2, 0, 0, 0, 1, 1));
        Check.fails("a track that is a key", x, STATE, () -> x.duck(1, 2, 0, 0, 1, 1));
        Check.same("a key of two", x.duck(2, 1, 0, 0, 1, 1), -1);
        x.endDuck(0);
        Check.fails("still a key", x, STATE, () -> x.duck(1, 3, 0, 0, 1, 1));
        x.endDuck(2);
        Check.same("no key any more", x.duck(1, 3, 0, 0, 1, 1), -1);
    }

    private static void duckGain() {
        ClipMixer x = withTone();
        x.setSource(1, ClipMixer.SQUARE, 4000, 100, 4000);
        x.addClip(1, 1, 200, 0, 120, 1000);
        Check.same("a track that is not ducked", x.duckGain(0, 260), 1000);
        x.duck(0, 1, 3000, 300, 200, 100);
        int[][] due = {{0, 1000}, {240, 1000}, {260, 900}, {261, 895}, {280, 800}, {320, 600}, {360, 400}, {399, 497},
            {400, 500}, {600, 1000}, {3999, 1000}};
        for (int[] d : due) {
            Check.same("duckGain at " + d[0], x.duckGain(0, d[0]), d[1]);
        }
        x.duck(0, 1, 4000, 900, 300, 1000);
        Check.same("the threshold is reached by the same level", x.duckGain(0, 279), 902);
        Check.same("not below the floor", x.duckGain(0, 300), 900);
        x.duck(0, 1, 4001, 900, 300, 1000);
        Check.same("a level below the threshold", x.duckGain(0, 279), 1000);
        x.duck(0, 1, 0, 0, 1, 1);
        Check.same("the threshold 0 is always reached", x.duckGain(0, 3960), 902);
        Check.same("rounded down", x.duckGain(0, 41), 999);
        x.duck(0, 1, 3000, 300, 1000, 1);
        x.setTrack(1, 0, 0, false, false);
        Check.same("the gain of the key counts", x.duckGain(0, 300), 1000);
        x.setTrack(1, 1000, 0, true, false);
        Check.same("a muted key counts", x.duckGain(0, 300), 300);
        x.setPoint(1, 0, 0, true);
        Check.same("the automation of the key counts", x.duckGain(0, 300), 1000);
        Check.fails("no such track", x, BOUNDS, () -> x.duckGain(4, -1));
        Check.fails("position -1", x, ARGUMENT, () -> x.duckGain(0, -1));
        Check.fails("position 4000", x, ARGUMENT, () -> x.duckGain(0, 4000));
    }

    private static void duckCurveIsKeptUpToDate() {
        ClipMixer x = withTone();
        x.setSource(1, ClipMixer.CONSTANT, 4000, 1, 4000);
        x.duck(0, 1, 3000, 300, 200, 100);
        Check.same("no key yet", x.duckGain(0, 3999), 1000);
        x.addClip(1, 1, 200, 0, 100, 1000);
        Check.same("a clip of the key", x.duckGain(0, 260), 900);
        x.moveClip(1, 1200);
        Check.same("the clip moved", x.duckGain(0, 260), 1000);
        x.undo();
        Check.same("moved back by undo()", x.duckGain(0, 260), 900);
        x.setSource(1, ClipMixer.CONSTANT, 1, 1, 4000);
        Check.same("another source", x.duckGain(0, 260), 1000);
        x.undo();
        x.setFades(1, 4000, 0, 0);
        Check.same("with fades", x.duckGain(0, 260), 1000);
        x.undo();
        x.removeClip(1);
        Check.same("without the clip", x.duckGain(0, 260), 1000);
        x.undo();
        x.deleteTime(1, 0, 200);
        Check.same("time deleted", x.duckGain(0, 60), 900);
        x.undo();
        x.trimClip(1, 41, 0);
        Check.same("trimmed", x.duckGain(0, 279), 1000);
        x.undo();
        x.render(1);
        x.seek(260);
        x.setLoop(0, 10);
        x.setMaster(500);
        Check.same("after calls that leave the sound", x.duckGain(0, 260), 900);
        Check.same("the mix of it", x.mix(1000, false), 500);
    }

    // The same calls on two mixers, of which one is asked for its duck gains all the time.
    private static void duckCurveForgetsNothing() {
        ClipMixer asked = new ClipMixer();
        for (int calls = 1; calls <= 18; calls++) {
            ClipMixer fresh = new ClipMixer();
            for (int k = 1; k <= calls; k++) {
                callNumber(k, fresh);
            }
            callNumber(calls, asked);
            for (int n = 7; n < 4000; n += 167) {
                Check.same("duckGain at " + n + " after call " + calls, asked.duckGain(0, n), fresh.duckGain(0, n));
            }
        }
    }

    private static void callNumber(int number, ClipMixer x) {
        switch (number) {
            case 1 -> x.setSource(1, ClipMixer.NOISE, 4000, 3, 4000);
            case 2 -> x.duck(0, 1, 2000, 300, 20, 10);
            case 3 -> x.addClip(1, 1, 0, 0, 2000, 1000);
            case 4 -> x.setFades(0, 1500, 0, ClipMixer.SQUARE_CURVE);
            case 5 -> x.moveClip(0, 100);
            case 6 -> x.trimClip(0, 0, 300);
            case 7 -> x.splitClip(0, 900);
            case 8 -> x.setFades(1, 400, 100, ClipMixer.LINEAR);
            case 9 -> x.moveClip(1, 2000);
            case 10 -> x.deleteTime(1, 200, 700);
            case 11 -> x.setTrack(1, 700, 0, false, false);
            case 12 -> x.setPoint(1, 1500, 1600, true);
            case 13 -> x.setPoint(1, 100, 600, false);
            case 14 -> x.removePoint(1, 1500);
            case 15 -> x.duck(0, 1, 1500, 0, 100, 10);
            case 16 -> x.endDuck(0);
            case 17 -> x.duck(0, 1, 1000, 0, 50, 20);
            default -> x.removeClip(0);
        }
    }

    private static int gainAfterWindow(int start, int length, int position) {
        ClipMixer x = new ClipMixer();
        x.setSource(1, ClipMixer.CONSTANT, 4000, 1, 4000);
        x.addClip(1, 1, start, 0, length, 1000);
        x.duck(2, 1, 4000, 0, 400, 400);
        return x.duckGain(2, position);
    }

    private static void duckAtEdgesOfWindows() {
        Check.same("the last position of a window", gainAfterWindow(239, 1, 260), 800);
        Check.same("the first position of the next one", gainAfterWindow(240, 1, 260), 1000);
        Check.same("the first position of a window", gainAfterWindow(240, 1, 300), 800);
        Check.same("the last position, one window later", gainAfterWindow(239, 1, 300), 800);
        Check.same("two windows", gainAfterWindow(239, 2, 300), 400);
        Check.same("the first window", gainAfterWindow(0, 1, 60), 800);
        Check.same("the last window", gainAfterWindow(3959, 1, 3999), 610);
        Check.same("the last window does not matter", gainAfterWindow(3960, 40, 3999), 1000);
        ClipMixer x = new ClipMixer();
        x.setSource(1, ClipMixer.CONSTANT, 1000, 1, 4000);
        for (int k = 0; k < 11; k++) {
            x.addClip(1, 1, 170 + 10 * k, 0, 10, 1000);
        }
        x.addClip(1, 1, 280, 0, 10, 1001);
        x.duck(2, 1, 1001, 0, 400, 400);
        Check.same("a loud position behind the window", x.duckGain(2, 300), 1000);
        Check.same("a loud position in the window", x.duckGain(2, 340), 800);
        x.moveClip(11, 160);
        Check.same("a loud position before the window", x.duckGain(2, 180), 1000);
        Check.same("a loud position in the window again", x.duckGain(2, 220), 800);
        Check.same("all 12 clips looked at", x.duckGain(2, 3999), 1000);
        for (int k = 0; k < 12; k++) {
            x.removeClip(0);
        }
        x.addClip(1, 1, 0, 0, 4000, 1001);
        Check.same("the key is heard by itself", x.duckGain(2, 60), 800);
    }

    private static void trackValue() {
        ClipMixer x = withTone();
        x.setSource(1, ClipMixer.SQUARE, 3333, 2, 4000);
        x.addClip(1, 1, 200, 0, 200, 1000);
        x.duck(0, 1, 3000, 300, 200, 100);
        Check.same("ducked", x.trackValue(0, 300), 700);
        Check.same("no clip", x.trackValue(1, 199), 0);
        x.setTrack(1, 333, 50, true, false);
        Check.same("a positive value, whether audible or not", x.trackValue(1, 200), 1109);
        Check.same("a negative value", x.trackValue(1, 201), -1110);
        x.setPoint(1, 0, 999, true);
        Check.same("gain, then automation", x.trackValue(1, 201), -1109);
        Check.same("gain, then automation, positive", x.trackValue(1, 200), 1107);
        Check.fails("no such track", x, BOUNDS, () -> x.trackValue(4, -1));
        Check.fails("position -1", x, ARGUMENT, () -> x.trackValue(0, -1));
        Check.fails("position 4000", x, ARGUMENT, () -> x.trackValue(0, 4000));
    }

    private static void audibleIs(String what, ClipMixer x, boolean... due) {
        for (int t = 0; t < due.length; t++) {
            Check.yes(what + ": isAudible(" + t + ")", x.isAudible(t) == due[t]);
        }
    }

    private static void audible() {
        ClipMixer x = new ClipMixer();
        audibleIs("at first", x, true, true, true, true);
        x.setTrack(0, 1000, 0, true, false);
        audibleIs("one is muted", x, false, true, true, true);
        x.setTrack(1, 1000, 0, false, true);
        audibleIs("one is solo", x, false, true, false, false);
        x.setTrack(1, 1000, 0, true, true);
        audibleIs("the solo one is muted", x, false, false, false, false);
        x.setTrack(3, 1000, 0, false, true);
        audibleIs("two are solo, one of them muted", x, false, false, false, true);
        for (int k = 0; k < 6; k++) {
            x.seek(k);
            audibleIs("after other calls", x, false, false, false, true);
        }
        Check.fails("no such track", x, BOUNDS, () -> x.isAudible(4) ? 1 : 0);
        Check.fails("track -1", x, BOUNDS, () -> x.isAudible(-1) ? 1 : 0);
    }
}

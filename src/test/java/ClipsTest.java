/** Promises 2 to 13 and 30: sources and clips. */
public final class ClipsTest {
    private static final Class<?> BOUNDS = IndexOutOfBoundsException.class;
    private static final Class<?> ARGUMENT = IllegalArgumentException.class;
    private static final Class<?> STATE = IllegalStateException.class;
    private static final Class<?> CONFLICT = UnsupportedOperationException.class;

    public static void main(String[] args) {
        setSource();
        samples();
        addClip();
        setFades();
        moveClip();
        trimClip();
        splitClip();
        removeClip();
        deleteTime();
        deleteTimeAtEdges();
        properties();
        clipValue();
        crossfade();
        length();
        Check.end();
    }

    private static ClipMixer withConstants() {
        ClipMixer x = new ClipMixer();
        x.setSource(0, ClipMixer.CONSTANT, 1000, 1, 4000);
        x.setSource(1, ClipMixer.CONSTANT, 500, 1, 4000);
        return x;
    }

    private static void clipIs(String what, ClipMixer x, int clip, int... due) {
        for (int k = 0; k < due.length; k++) {
            Check.same(what + ": clip(" + clip + ", " + k + ")", x.clip(clip, k), due[k]);
        }
    }

    private static void setSource() {
        ClipMixer x = new ClipMixer();
        Check.same("setSource returns the previous length", x.setSource(5, 3, 10000, 1000, 1), 4000);
        Check.same("setSource returns the new length later", x.setSource(5, 0, 0, 1, 4000), 1);
        Check.fails("source -1", x, BOUNDS, () -> x.setSource(-1, 9, 0, 1, 1));
        Check.fails("source 6", x, BOUNDS, () -> x.setSource(6, 0, 0, 1, 1));
        int[][] bad = {{-1, 0, 1, 1}, {4, 0, 1, 1}, {0, -1, 1, 1}, {0, 10001, 1, 1}, {0, 0, 0, 1}, {0, 0, 1001, 1},
            {0, 0, 1, 0}, {0, 0, 1, 4001}, {0, 0, 1, Integer.MIN_VALUE}};
        for (int[] b : bad) {
            Check.fails("setSource out of range", x, ARGUMENT, () -> x.setSource(0, b[0], b[1], b[2], b[3]));
        }
        Check.undoable("setSource", x, () -> x.setSource(0, 1, 5, 6, 7));
    }

    private static void samples() {
        ClipMixer x = new ClipMixer();
        Check.same("a new source is silent", x.sample(3, 3999), 0);
        x.setSource(0, ClipMixer.CONSTANT, 7, 3, 10);
        Check.same("CONSTANT", x.sample(0, 9), 7);
        x.setSource(1, ClipMixer.SQUARE, 7, 3, 10);
        int[] square = {7, 7, -7, 7, 7, -7};
        x.setSource(2, ClipMixer.SAW, 7, 3, 10);
        int[] saw = {-7, -3, 2, -7, -3, 2};
        for (int i = 0; i < square.length; i++) {
            Check.same("SQUARE " + i, x.sample(1, i), square[i]);
            Check.same("SAW " + i, x.sample(2, i), saw[i]);
        }
        x.setSource(3, ClipMixer.NOISE, 300, 7, 4000);
        Check.same("NOISE 0", x.sample(3, 0), -289);
        Check.same("NOISE 1", x.sample(3, 1), 8);
        Check.same("NOISE 1000", x.sample(3, 1000), 73);
        Check.fails("sample of source 6", x, BOUNDS, () -> x.sample(6, 0));
        Check.fails("sample of source -1", x, BOUNDS, () -> x.sample(-1, 0));
        Check.fails("sample -1", x, BOUNDS, () -> x.sample(0, -1));
        Check.fails("sample behind the source", x, BOUNDS, () -> x.sample(0, 10));
    }

    private static void addClip() {
        ClipMixer x = new ClipMixer();
        Check.same("the first clip", x.addClip(1, 0, 100, 7, 100, 1500), 0);
        Check.same("a clip of a later track", x.addClip(2, 0, 0, 0, 4000, 0), 1);
        Check.same("a clip of an earlier track", x.addClip(0, 5, 3999, 3999, 1, 2000), 0);
        Check.same("a clip before another one", x.addClip(1, 0, 50, 0, 100, 1000), 1);
        clipIs("a new clip", x, 2, 1, 0, 100, 7, 100, 1500, 0, 0, 0);
        int[][] bad = {{-1, 0, 0, 0, 1, 0}, {4, 0, 0, 0, 1, 0}, {0, -1, 0, 0, 1, 0}, {0, 6, 0, 0, 1, 0},
            {0, 0, -1, 0, 1, 0}, {0, 0, 4000, 0, 0, 0}, {0, 0, 0, -1, 1, 0}, {0, 0, 0, 4000, 1, 0}, {0, 0, 0, 0, 0, 0},
            {0, 0, 1, 0, 4000, 0}, {0, 0, 0, 0, 1, -1}, {0, 0, 0, 0, 1, 2001}, {0, 0, Integer.MIN_VALUE, 0, 5, 5}};
        for (int[] b : bad) {
            Check.fails("addClip out of range", x, ARGUMENT, () -> x.addClip(b[0], b[1], b[2], b[3], b[4], b[5]));
        }
        Check.fails("the same start", x, CONFLICT, () -> x.addClip(1, 0, 100, 0, 200, 1000));
        Check.fails("the same end", x, CONFLICT, () -> x.addClip(1, 0, 110, 0, 90, 1000));
        Check.fails("a clip inside another one", x, CONFLICT, () -> x.addClip(1, 0, 160, 0, 10, 1000));
        Check.fails("a clip around another one", x, CONFLICT, () -> x.addClip(1, 0, 40, 0, 500, 1000));
        Check.fails("a third clip on a position", x, CONFLICT, () -> x.addClip(1, 0, 149, 0, 100, 1000));
        Check.undoable("addClip", x, () -> x.addClip(1, 0, 150, 0, 100, 1000));
        Check.same("a third clip that only touches", x.addClip(1, 0, 150, 0, 100, 1000), 3);
        fullMixer();
    }

    private static void fullMixer() {
        ClipMixer x = new ClipMixer();
        for (int k = 0; k < 12; k++) {
            Check.same("clip " + k, x.addClip(3, 0, 10 * k, 0, 10, 1000), k);
        }
        Check.fails("a 13th clip", x, STATE, () -> x.addClip(0, 0, 0, 0, 10, 1000));
        Check.fails("a 13th clip in conflict", x, STATE, () -> x.addClip(3, 0, 0, 0, 10, 1000));
        Check.fails("a 13th clip out of range", x, ARGUMENT, () -> x.addClip(4, 0, 0, 0, 10, 1000));
        Check.fails("a 13th clip by a split", x, STATE, () -> x.splitClip(0, 5));
        Check.fails("a bad split", x, ARGUMENT, () -> x.splitClip(0, 0));
        Check.same("nothing to delete on another track", x.deleteTime(0, 0, 4000), 0);
        Check.same("the last of 12 has no neighbour", x.trackValue(3, 115), 0);
        Check.same("the last of 12 moved", x.moveClip(11, 3000), 11);
        Check.same("the last of 12 trimmed", x.trimClip(11, 1, 1), 8);
        Check.same("the last of 12 removed", x.removeClip(11), 11);
        Check.same("the last of 11 cut off", x.deleteTime(3, 100, 120), 1);
    }

    private static void setFades() {
        ClipMixer x = new ClipMixer();
        x.addClip(0, 0, 0, 0, 10, 1000);
        Check.same("setFades", x.setFades(0, 4000, 4000, ClipMixer.SQUARE_CURVE), 0);
        Check.same("setFades again", x.setFades(0, 3, 2, 1), 4000);
        clipIs("fades", x, 0, 0, 0, 0, 0, 10, 1000, 3, 2, 1);
        Check.fails("no such clip", x, BOUNDS, () -> x.setFades(1, -1, 0, 0));
        Check.fails("clip -1", x, BOUNDS, () -> x.setFades(-1, 0, 0, 0));
        int[][] bad = {{-1, 0, 0}, {4001, 0, 0}, {0, -1, 0}, {0, 4001, 0}, {0, 0, -1}, {0, 0, 2}};
        for (int[] b : bad) {
            Check.fails("setFades out of range", x, ARGUMENT, () -> x.setFades(0, b[0], b[1], b[2]));
        }
        Check.undoable("setFades", x, () -> x.setFades(0, 0, 0, 0));
    }

    private static void moveClip() {
        ClipMixer x = new ClipMixer();
        x.addClip(0, 0, 500, 0, 10, 1000);
        x.addClip(1, 1, 0, 0, 100, 1000);
        x.addClip(1, 2, 200, 0, 100, 1000);
        x.addClip(1, 3, 400, 0, 100, 1000);
        Check.same("moved behind all", x.moveClip(1, 3900), 3);
        Check.same("the others go down", x.clip(1, 1), 2);
        Check.same("moved before all", x.moveClip(3, 0), 1);
        Check.same("moved to where it is", x.moveClip(2, 200), 2);
        Check.fails("no such clip", x, BOUNDS, () -> x.moveClip(4, -1));
        Check.fails("start -1", x, ARGUMENT, () -> x.moveClip(1, -1));
        Check.fails("beyond the timeline", x, ARGUMENT, () -> x.moveClip(1, 3901));
        Check.fails("onto another start", x, CONFLICT, () -> x.moveClip(1, 200));
        x.moveClip(1, 301);
        Check.fails("a third one on a position", x, CONFLICT, () -> x.moveClip(1, 350));
        Check.undoable("moveClip", x, () -> x.moveClip(1, 1000));
    }

    private static void trimClip() {
        ClipMixer x = new ClipMixer();
        x.addClip(0, 0, 0, 0, 100, 1000);
        x.addClip(0, 0, 50, 3900, 100, 1000);
        x.setFades(0, 60, 4000, 1);
        Check.same("trimmed", x.trimClip(0, 10, 20), 70);
        clipIs("a trimmed clip", x, 0, 0, 0, 10, 10, 70, 1000, 60, 70, 1);
        x.setFades(0, 4000, 10, 0);
        Check.same("trimmed by nothing", x.trimClip(0, 0, 0), 70);
        clipIs("a clip trimmed by nothing", x, 0, 0, 0, 10, 10, 70, 1000, 70, 10, 0);
        Check.fails("no such clip", x, BOUNDS, () -> x.trimClip(2, -1, 0));
        Check.fails("front -1", x, ARGUMENT, () -> x.trimClip(0, -1, 0));
        Check.fails("back -1", x, ARGUMENT, () -> x.trimClip(0, 0, -1));
        Check.fails("nothing left", x, ARGUMENT, () -> x.trimClip(0, 35, 35));
        Check.fails("huge pieces", x, ARGUMENT, () -> x.trimClip(0, Integer.MAX_VALUE, Integer.MAX_VALUE));
        Check.same("all but one", x.clip(0, 4), 70);
        Check.fails("its start at that of the next one", x, CONFLICT, () -> x.trimClip(0, 40, 0));
        Check.fails("its end at that of the one before", x, CONFLICT, () -> x.trimClip(1, 0, 70));
        Check.same("the offset 3999", x.trimClip(1, 99, 0), 1);
        Check.same("its offset", x.clip(1, 3), 3999);
        x.addClip(1, 0, 0, 3950, 100, 1000);
        Check.fails("the offset 4000", x, ARGUMENT, () -> x.trimClip(2, 50, 0));
        Check.undoable("trimClip", x, () -> x.trimClip(0, 1, 68));
    }

    private static void splitClip() {
        ClipMixer x = new ClipMixer();
        x.addClip(0, 4, 100, 30, 100, 700);
        x.addClip(2, 0, 0, 0, 10, 1000);
        x.setFades(0, 60, 70, 1);
        Check.same("split", x.splitClip(0, 150), 1);
        clipIs("the first part", x, 0, 0, 4, 100, 30, 50, 700, 50, 0, 1);
        clipIs("the second part", x, 1, 0, 4, 150, 80, 50, 700, 0, 50, 1);
        Check.same("a later clip", x.clip(2, 0), 2);
        Check.fails("no such clip", x, BOUNDS, () -> x.splitClip(3, 0));
        Check.fails("at its start", x, ARGUMENT, () -> x.splitClip(0, 100));
        Check.fails("at its end", x, ARGUMENT, () -> x.splitClip(0, 150));
        x.addClip(3, 0, 0, 3990, 100, 1000);
        Check.fails("the offset 4000", x, ARGUMENT, () -> x.splitClip(3, 10));
        Check.same("the offset 3999", x.splitClip(3, 9), 4);
        x.addClip(3, 0, 1000, 3990, 100, 1000);
        Check.fails("the offset 4000, later", x, ARGUMENT, () -> x.splitClip(5, 1010));
        Check.same("the offset 3999, later", x.splitClip(5, 1009), 6);
        Check.undoable("splitClip", x, () -> x.splitClip(0, 101));
        splitInCrossfade();
    }

    private static void splitInCrossfade() {
        ClipMixer x = new ClipMixer();
        x.addClip(0, 0, 0, 0, 100, 1000);
        x.addClip(0, 1, 80, 0, 100, 1000);
        Check.fails("the second part at the next start", x, CONFLICT, () -> x.splitClip(0, 80));
        Check.fails("in the crossfade", x, CONFLICT, () -> x.splitClip(0, 90));
        Check.fails("the first part ends with the one before", x, CONFLICT, () -> x.splitClip(1, 100));
        Check.same("just behind the crossfade", x.splitClip(1, 101), 2);
        Check.same("just before the crossfade", x.splitClip(0, 79), 1);
    }

    private static void removeClip() {
        ClipMixer x = new ClipMixer();
        x.addClip(0, 1, 0, 0, 10, 1000);
        x.addClip(0, 2, 10, 0, 10, 1000);
        x.addClip(0, 3, 20, 0, 10, 1000);
        Check.undoable("removeClip", x, () -> x.removeClip(0));
        Check.same("removed", x.removeClip(1), 2);
        Check.same("the first stays", x.clip(0, 1), 1);
        Check.same("the last goes down", x.clip(1, 1), 3);
        Check.fails("no such clip", x, BOUNDS, () -> x.removeClip(2));
        Check.fails("clip -1", x, BOUNDS, () -> x.removeClip(-1));
        x.removeClip(0);
        Check.same("the last one removed", x.removeClip(0), 0);
        Check.same("the first one again", x.addClip(0, 1, 0, 0, 10, 1000), 0);
        for (int k = 0; k < 7; k++) {
            x.setFades(0, 5, 5, 1);
            x.removeClip(0);
            Check.same("the next one", x.addClip(0, 1, 0, 0, 10, 1000), 0);
            clipIs("a clip on a used place is a new one", x, 0, 0, 1, 0, 0, 10, 1000, 0, 0, 0);
            x.seek(k);
        }
    }

    private static void deleteTime() {
        ClipMixer x = new ClipMixer();
        x.addClip(1, 0, 0, 0, 100, 1000);
        x.addClip(1, 1, 90, 0, 100, 1000);
        x.addClip(1, 2, 200, 0, 50, 1000);
        x.addClip(1, 3, 240, 5, 100, 1000);
        x.addClip(1, 4, 400, 0, 100, 1000);
        x.addClip(2, 5, 400, 0, 100, 1000);
        x.setFades(1, 70, 90, 1);
        x.setFades(3, 95, 95, 1);
        x.setFades(4, 4000, 4000, 0);
        Check.undoable("deleteTime", x, () -> x.deleteTime(1, 150, 300));
        Check.same("one clip lies inside", x.deleteTime(1, 150, 300), 1);
        Check.same("clips that are left", x.clips(), 5);
        clipIs("before it", x, 0, 1, 0, 0, 0, 100);
        clipIs("the end cut off", x, 1, 1, 1, 90, 0, 60, 1000, 60, 60, 1);
        clipIs("the front cut off", x, 2, 1, 3, 150, 65, 40, 1000, 40, 40, 1);
        clipIs("behind it", x, 3, 1, 4, 250, 0, 100, 1000, 4000, 4000, 0);
        clipIs("another track", x, 4, 2, 5, 400, 0, 100);
        Check.same("a clip around the stretch loses its end", x.deleteTime(1, 260, 270), 0);
        clipIs("around", x, 3, 1, 4, 250, 0, 10, 1000, 10, 10, 0);
        Check.fails("no such track", x, BOUNDS, () -> x.deleteTime(4, -1, 0));
        Check.fails("track -1", x, BOUNDS, () -> x.deleteTime(-1, 0, 1));
        Check.fails("from -1", x, ARGUMENT, () -> x.deleteTime(0, -1, 1));
        Check.fails("from is to", x, ARGUMENT, () -> x.deleteTime(0, 1, 1));
        Check.fails("to 0", x, ARGUMENT, () -> x.deleteTime(0, -1, 0));
        Check.fails("to 4001", x, ARGUMENT, () -> x.deleteTime(0, 0, 4001));
        Check.same("all of the track", x.deleteTime(1, 0, 4000), 4);
        Check.undoable("deleteTime of nothing", x, () -> x.deleteTime(1, 0, 4000));
    }

    private static void deleteTimeAtEdges() {
        ClipMixer x = new ClipMixer();
        x.addClip(0, 0, 0, 0, 100, 1000);
        x.addClip(0, 1, 20, 0, 100, 1000);
        Check.fails("both would end at once", x, CONFLICT, () -> x.deleteTime(0, 50, 60));
        Check.fails("both would start at once", x, CONFLICT, () -> x.deleteTime(0, 0, 60));
        Check.same("both keep apart", x.deleteTime(0, 20, 100), 0);
        clipIs("the first", x, 0, 0, 0, 0, 0, 20);
        clipIs("the second", x, 1, 0, 1, 20, 80, 20);
        Check.same("just inside", x.deleteTime(0, 20, 40), 1);
        Check.same("from its end on", x.deleteTime(0, 20, 30), 0);
        clipIs("untouched", x, 0, 0, 0, 0, 0, 20);
        x.addClip(2, 0, 100, 3990, 100, 1000);
        Check.fails("the offset 4000", x, ARGUMENT, () -> x.deleteTime(2, 50, 110));
        ClipMixer y = new ClipMixer();
        y.addClip(2, 0, 0, 3990, 100, 1000);
        y.addClip(2, 0, 5, 0, 100, 1000);
        Check.fails("the offset 4000 before a conflict", y, ARGUMENT, () -> y.deleteTime(2, 0, 10));
        Check.fails("only a conflict", y, CONFLICT, () -> y.deleteTime(2, 0, 9));
        Check.same("the offset 3999", x.deleteTime(2, 50, 109), 0);
        clipIs("moved", x, 1, 2, 0, 50, 3999, 91);
        Check.same("an offset that is removed does not matter", x.deleteTime(2, 50, 141), 1);
    }

    private static void properties() {
        ClipMixer x = new ClipMixer();
        Check.same("no clips", x.clips(), 0);
        Check.fails("clip 0 of none", x, BOUNDS, () -> x.clip(0, 0));
        x.addClip(3, 5, 17, 19, 23, 29);
        x.setFades(0, 31, 37, 1);
        Check.same("one clip", x.clips(), 1);
        clipIs("all properties", x, 0, 3, 5, 17, 19, 23, 29, 31, 37, 1);
        Check.fails("what -1", x, ARGUMENT, () -> x.clip(0, -1));
        Check.fails("what 9", x, ARGUMENT, () -> x.clip(0, 9));
        Check.fails("clip before what", x, BOUNDS, () -> x.clip(1, 9));
        Check.fails("clip -1", x, BOUNDS, () -> x.clip(-1, 0));
    }

    private static void clipValue() {
        ClipMixer x = withConstants();
        x.addClip(0, 0, 100, 0, 100, 1000);
        x.setFades(0, 50, 20, ClipMixer.LINEAR);
        Check.same("the first position", x.clipValue(0, 100), 0);
        Check.same("half of the fade-in", x.clipValue(0, 125), 500);
        Check.same("behind the fade-in", x.clipValue(0, 150), 1000);
        Check.same("before the fade-out", x.clipValue(0, 179), 1000);
        Check.same("the fade-out", x.clipValue(0, 180), 950);
        Check.same("the last position", x.clipValue(0, 199), 0);
        x.setFades(0, 50, 20, ClipMixer.SQUARE_CURVE);
        Check.same("a square fade-in", x.clipValue(0, 125), 250);
        Check.same("a square fade-out", x.clipValue(0, 190), 202);
        x.setFades(0, 200, 200, ClipMixer.LINEAR);
        Check.same("both fades at once, longer than the clip", x.clipValue(0, 150), 61);
        Check.fails("before the clip", x, ARGUMENT, () -> x.clipValue(0, 99));
        Check.fails("behind the clip", x, ARGUMENT, () -> x.clipValue(0, 200));
        Check.fails("no such clip", x, BOUNDS, () -> x.clipValue(1, 99));
        x.setSource(2, ClipMixer.SQUARE, 333, 2, 10);
        x.addClip(1, 2, 0, 5, 20, 500);
        Check.same("floor of a negative value", x.clipValue(1, 0), -167);
        Check.same("the last sample", x.clipValue(1, 4), -167);
        x.setSource(2, ClipMixer.CONSTANT, 333, 1, 10);
        Check.same("the last sample of a constant", x.clipValue(1, 4), 166);
        Check.same("behind the source", x.clipValue(1, 5), 0);
    }

    private static void crossfade() {
        ClipMixer x = withConstants();
        x.addClip(0, 0, 0, 0, 100, 1000);
        x.addClip(0, 1, 80, 0, 100, 1000);
        Check.same("before it", x.trackValue(0, 79), 1000);
        Check.same("its first position", x.trackValue(0, 80), 1000);
        Check.same("its middle", x.trackValue(0, 90), 750);
        Check.same("its last position", x.trackValue(0, 99), 525);
        Check.same("behind it", x.trackValue(0, 100), 500);
        Check.same("the raw value is without it", x.clipValue(0, 90), 1000);
        x.addClip(0, 1, 100, 0, 200, 1000);
        Check.same("the next crossfade", x.trackValue(0, 140), 500);
        x.removeClip(2);
        Check.same("a removed clip does not count", x.trackValue(0, 140), 500);
        x.setFades(0, 0, 0, 0);
        x.removeClip(1);
        Check.same("nor does it fade its neighbour", x.trackValue(0, 90), 1000);
        x.undo();
        x.undo();
        x.undo();
        Check.same("clips of other tracks do not count", x.addClip(1, 0, 85, 0, 10, 1000), 3);
        Check.same("the other track", x.trackValue(1, 90), 1000);
    }

    private static void length() {
        ClipMixer x = new ClipMixer();
        Check.same("without clips", x.length(), 0);
        x.addClip(2, 0, 50, 0, 100, 1000);
        x.addClip(3, 0, 0, 0, 10, 1000);
        Check.same("the greatest end", x.length(), 150);
        x.addClip(0, 0, 3999, 0, 1, 1000);
        Check.same("the end of the timeline", x.length(), 4000);
    }
}

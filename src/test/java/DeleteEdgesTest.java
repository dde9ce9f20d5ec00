/** The boundaries that the document names for the deletion of a stretch of time: promise 10. */
public final class DeleteEdgesTest {
    private static final int MIN = Integer.MIN_VALUE;
    private static final int MAX = Integer.MAX_VALUE;

    public static void main(String[] args) {
        ranges();
        firstException();
        oneClip();
        longestClip();
        fades();
        numberOfRemoved();
        otherTracks();
        offsets();
        sameStarts();
        sameEnds();
        movedTogether();
        fullMixer();
        Check.end();
    }

    // Each row is a clip on track 1: start, length, offset.
    private static Edge.Maker clips(int... rows) {
        return () -> {
            ClipMixer x = new ClipMixer();
            for (int k = 0; k + 2 < rows.length; k += 3) {
                x.addClip(1, k / 3, rows[k], rows[k + 2], rows[k + 1], 1000);
            }
            return x;
        };
    }

    private static void clipIs(String what, ClipMixer x, int clip, int start, int offset, int length) {
        Check.same(what + ": the start of clip " + clip, x.clip(clip, 2), start);
        Check.same(what + ": the offset of clip " + clip, x.clip(clip, 3), offset);
        Check.same(what + ": the length of clip " + clip, x.clip(clip, 4), length);
    }

    // "track: 0 to 3", "from: 0 to to - 1", "to: 1 to 4000, the position behind the stretch"
    private static void ranges() {
        Edge.range("track", Edge::rich, 0, 3, Edge.BOUNDS, (x, v) -> x.deleteTime(v, 10, 20));
        Edge.range("from", Edge::rich, 0, 9, Edge.ARGUMENT, (x, v) -> x.deleteTime(1, v, 10));
        Edge.range("from of the first position", Edge::rich, 0, 0, Edge.ARGUMENT, (x, v) -> x.deleteTime(1, v, 1));
        Edge.range("from of all", Edge::rich, 0, 3999, Edge.ARGUMENT, (x, v) -> x.deleteTime(1, v, 4000));
        Edge.range("to", Edge::rich, 1, 4000, Edge.ARGUMENT, (x, v) -> x.deleteTime(1, 0, v));
        Edge.range("to behind from", Edge::rich, 11, 4000, Edge.ARGUMENT, (x, v) -> x.deleteTime(1, 10, v));
        int[][] wrong = {{-1, 0}, {0, 0}, {MIN, MIN}, {MAX, MIN}, {MAX, MAX}, {-5, -4}, {4000, 4001}, {4000, 4000},
            {3999, 4001}};
        for (int[] w : wrong) {
            Edge.refused("from " + w[0] + " to " + w[1], Edge::rich, Edge.ARGUMENT,
                    x -> x.deleteTime(1, w[0], w[1]));
        }
    }

    private static void firstException() {
        Edge.refused("no track and no stretch", Edge::rich, Edge.BOUNDS, x -> x.deleteTime(4, 5, 5));
        Edge.refused("no track, negative", Edge::rich, Edge.BOUNDS, x -> x.deleteTime(-1, -1, 4001));
        Edge.Maker both = clips(0, 100, 3990, 5, 100, 0);
        Edge.refused("the offset 4000 and the same start", both, Edge.ARGUMENT, x -> x.deleteTime(1, 0, 10));
        Edge.refused("the same start alone", both, Edge.CONFLICT, x -> x.deleteTime(1, 0, 9));
    }

    // One clip at 10 of length 10, offset 100; a due length of 0 means that it is removed.
    private static void oneClip() {
        int[][] due = {{0, 10, 0, 100, 10}, {0, 11, 0, 101, 9}, {0, 19, 0, 109, 1}, {0, 20, 0, 0, 0}, {0, 21, 0, 0, 0},
            {0, 4000, 0, 0, 0}, {10, 20, 0, 0, 0}, {9, 20, 0, 0, 0}, {10, 21, 0, 0, 0}, {10, 19, 10, 109, 1},
            {10, 11, 10, 101, 9}, {9, 10, 9, 100, 10}, {9, 11, 9, 101, 9}, {5, 8, 7, 100, 10}, {11, 20, 10, 100, 1},
            {11, 19, 10, 100, 1}, {11, 12, 10, 100, 1}, {11, 21, 10, 100, 1}, {19, 20, 10, 100, 9},
            {19, 4000, 10, 100, 9}, {18, 19, 10, 100, 8}, {20, 21, 10, 100, 10}, {20, 4000, 10, 100, 10},
            {21, 30, 10, 100, 10}, {0, 1, 9, 100, 10}, {3999, 4000, 10, 100, 10}};
        for (int[] d : due) {
            ClipMixer x = clips(10, 10, 100).make();
            String what = "without " + d[0] + " to " + d[1];
            Check.same(what, x.deleteTime(1, d[0], d[1]), d[4] == 0 ? 1 : 0);
            Check.same(what + ": clips", x.clips(), d[4] == 0 ? 0 : 1);
            if (d[4] != 0) {
                clipIs(what, x, 0, d[2], d[3], d[4]);
            }
        }
    }

    private static void longestClip() {
        int[][] due = {{0, 1, 0, 1, 3999}, {0, 3999, 0, 3999, 1}, {1, 2, 0, 0, 1}, {3999, 4000, 0, 0, 3999}};
        for (int[] d : due) {
            ClipMixer x = clips(0, 4000, 0).make();
            Check.same("nothing is removed", x.deleteTime(1, d[0], d[1]), 0);
            clipIs("of the longest clip, without " + d[0] + " to " + d[1], x, 0, d[2], d[3], d[4]);
        }
        Edge.answers("all of it", clips(0, 4000, 0), 1, x -> x.deleteTime(1, 0, 4000));
        Edge.answers("a clip on the last position moves", clips(3999, 1, 3999), 0,
                x -> x.deleteTime(1, 0, 3999) + x.clip(0, 2));
    }

    // "cut off as by trimClip()": the fades of a cut clip are at most its new length, the others stay
    private static void fades() {
        int[][] due = {{0, 14, 6, 7, 6, 6}, {0, 14, 5, 6, 5, 6}, {16, 20, 6, 7, 6, 6}, {16, 30, 4000, 4000, 6, 6},
            {16, 17, 4000, 5, 6, 5}, {0, 10, 4000, 4000, 4000, 4000}, {20, 30, 4000, 4000, 4000, 4000},
            {0, 9, 11, 12, 11, 12}};
        for (int[] d : due) {
            ClipMixer x = clips(10, 10, 0).make();
            x.setFades(0, d[2], d[3], 1);
            x.deleteTime(1, d[0], d[1]);
            String what = "fades without " + d[0] + " to " + d[1];
            Check.same(what + ": the fade-in length", x.clip(0, 6), d[4]);
            Check.same(what + ": the fade-out length", x.clip(0, 7), d[5]);
            Check.same(what + ": the curve stays", x.clip(0, 8), 1);
            Check.same(what + ": the gain stays", x.clip(0, 5), 1000);
        }
    }

    // "Returns the number of clips that were removed."
    private static void numberOfRemoved() {
        Edge.Maker made = clips(0, 10, 0, 10, 10, 0, 15, 10, 0, 30, 10, 0);
        int[][] due = {{0, 9, 0}, {0, 10, 1}, {0, 20, 2}, {0, 24, 2}, {0, 25, 3}, {0, 39, 3}, {0, 40, 4}, {1, 40, 3},
            {10, 25, 2}, {11, 25, 1}, {15, 40, 2}, {30, 40, 1}, {31, 40, 0}, {40, 4000, 0}};
        for (int[] d : due) {
            Edge.answers("removed from " + d[0] + " to " + d[1], made, d[2], x -> x.deleteTime(1, d[0], d[1]));
            Edge.answers("left from " + d[0] + " to " + d[1], made, 4 - d[2], x -> {
                x.deleteTime(1, d[0], d[1]);
                return x.clips();
            });
        }
        Edge.answers("without clips", Edge::empty, 0, x -> x.deleteTime(0, 0, 4000));
        Edge.answers("saved even so", Edge::empty, 0, x -> x.deleteTime(0, 0, 4000) + x.undo());
    }

    private static void otherTracks() {
        ClipMixer x = Edge.rich();
        long others = x.trackValue(0, 3000) + 7L * x.trackValue(3, 1000);
        Check.same("one on track 1", x.deleteTime(1, 0, 4000), 1);
        Check.same("none is left on it", x.deleteTime(1, 0, 4000), 0);
        Check.same("the others are as they were", x.trackValue(0, 3000) + 7L * x.trackValue(3, 1000), others);
        Check.same("three are left", x.clips(), 3);
        othersLieStill();
        Edge.answers("an offset on another track does not matter", clips(0, 100, 3999), 0,
                m -> m.deleteTime(2, 0, 50));
    }

    // "on a track": clips of the others that lie in, across, around and behind the stretch stay.
    private static void othersLieStill() {
        int[][] others = {{0, 90, 20}, {0, 120, 10}, {0, 145, 10}, {0, 150, 100}, {2, 0, 4000}, {3, 151, 5}};
        ClipMixer x = new ClipMixer();
        for (int[] o : others) {
            x.addClip(o[0], 0, o[1], 7, o[2], 1000);
        }
        x.addClip(1, 0, 160, 7, 10, 1000);
        x.setFades(2, 4000, 4000, 1);
        Check.same("nothing is removed", x.deleteTime(1, 100, 150), 0);
        int[][] due = {{90, 20}, {120, 10}, {145, 10}, {150, 100}, {110, 10}, {0, 4000}, {151, 5}};
        for (int k = 0; k < due.length; k++) {
            clipIs("beside the stretch", x, k, due[k][0], 7, due[k][1]);
        }
        Check.same("the fade-in of another track", x.clip(2, 6), 4000);
        Check.same("the fade-out of another track", x.clip(2, 7), 4000);
    }

    // "or the offset of a clip would be greater than 3999"
    private static void offsets() {
        Edge.Maker made = clips(100, 100, 3990);
        Edge.answers("the offset 3999", made, 3999, x -> x.deleteTime(1, 50, 109) + x.clip(0, 3));
        Edge.refused("the offset 4000", made, Edge.ARGUMENT, x -> x.deleteTime(1, 50, 110));
        Edge.refused("the offset 4089", made, Edge.ARGUMENT, x -> x.deleteTime(1, 50, 199));
        Edge.answers("a clip that is removed", made, 1, x -> x.deleteTime(1, 50, 200));
        Edge.answers("a clip that loses its end", made, 3990, x -> x.deleteTime(1, 101, 180) + x.clip(0, 3));
        Edge.answers("a clip that moves", clips(100, 100, 3999), 3999, x -> x.deleteTime(1, 0, 100) + x.clip(0, 3));
        Edge.refused("one position of it", clips(100, 100, 3999), Edge.ARGUMENT, x -> x.deleteTime(1, 0, 101));
        Edge.refused("the second clip", clips(0, 50, 0, 100, 100, 3990), Edge.ARGUMENT,
                x -> x.deleteTime(1, 20, 110));
    }

    // "if the clips of the track would not be in order": a cut front stands where others begin
    private static void sameStarts() {
        Edge.Maker made = clips(10, 100, 0, 70, 100, 0);
        Edge.answers("a cut front just before the next clip", made, 0, x -> x.deleteTime(1, 5, 69));
        Edge.refused("a cut front where the next clip begins", made, Edge.CONFLICT, x -> x.deleteTime(1, 5, 70));
        Edge.refused("two cut fronts", made, Edge.CONFLICT, x -> x.deleteTime(1, 5, 71));
        Edge.refused("two cut fronts, one position is left", made, Edge.CONFLICT, x -> x.deleteTime(1, 10, 109));
        Edge.answers("the first one is removed", made, 1, x -> x.deleteTime(1, 10, 110));
        Edge.answers("the first one loses its end", made, 0, x -> x.deleteTime(1, 11, 71));
        ClipMixer x = made.make();
        x.deleteTime(1, 5, 69);
        clipIs("a cut front", x, 0, 5, 59, 41);
        clipIs("the next clip", x, 1, 6, 0, 100);
    }

    // A cut end stands where the stretch begins.
    private static void sameEnds() {
        Edge.Maker made = clips(10, 100, 0, 70, 100, 0);
        Edge.refused("two cut ends", made, Edge.CONFLICT, x -> x.deleteTime(1, 109, 120));
        Edge.refused("a cut end where the clip before ends", made, Edge.CONFLICT, x -> x.deleteTime(1, 110, 120));
        Edge.refused("the same up to its end", made, Edge.CONFLICT, x -> x.deleteTime(1, 110, 170));
        Edge.answers("a cut end just behind the clip before", made, 0, x -> x.deleteTime(1, 111, 120));
        Edge.refused("two cut ends, one position is left", made, Edge.CONFLICT, x -> x.deleteTime(1, 71, 200));
        Edge.answers("the second one is removed", made, 1, x -> x.deleteTime(1, 70, 200));
        ClipMixer x = made.make();
        x.deleteTime(1, 111, 120);
        clipIs("the clip before", x, 0, 10, 0, 100);
        clipIs("a cut end", x, 1, 70, 0, 41);
    }

    // "all clips that begin at or after its end, also those whose front was cut off up to it, are moved"
    private static void movedTogether() {
        ClipMixer x = clips(0, 100, 0, 90, 30, 0, 110, 90, 0, 150, 100, 0, 250, 3750, 0).make();
        Check.same("one is removed", x.deleteTime(1, 80, 149), 1);
        Check.same("four are left", x.clips(), 4);
        clipIs("its end cut off", x, 0, 0, 0, 80);
        clipIs("its front cut off", x, 1, 80, 39, 51);
        clipIs("behind the stretch", x, 2, 81, 0, 100);
        clipIs("at the end of the timeline", x, 3, 181, 0, 3750);
        Check.same("the length of all", x.length(), 3931);
        Edge.refused("an end cut off to that of a clip before", clips(0, 80, 0, 20, 80, 0), Edge.CONFLICT,
                m -> m.deleteTime(1, 80, 90));
    }

    private static void fullMixer() {
        Edge.Maker made = () -> {
            ClipMixer x = new ClipMixer();
            for (int k = 0; k < 12; k++) {
                x.addClip(3, 0, 10 * k, 0, 10, 1000);
            }
            return x;
        };
        Edge.answers("all 12", made, 12, x -> x.deleteTime(3, 0, 120));
        Edge.answers("all but the last one", made, 11, x -> x.deleteTime(3, 0, 119));
        Edge.answers("all but the first one", made, 11, x -> x.deleteTime(3, 1, 4000));
        Edge.answers("a part of the last one", made, 0, x -> x.deleteTime(3, 119, 120));
        Edge.answers("none of another track", made, 0, x -> x.deleteTime(2, 0, 4000));
        ClipMixer x = made.make();
        Check.same("the middle", x.deleteTime(3, 35, 85), 4);
        int[][] due = {{0, 0, 10}, {10, 0, 10}, {20, 0, 10}, {30, 0, 5}, {35, 5, 5}, {40, 0, 10}, {50, 0, 10},
            {60, 0, 10}};
        Check.same("eight are left", x.clips(), due.length);
        for (int k = 0; k < due.length; k++) {
            clipIs("without the middle", x, k, due[k][0], due[k][1], due[k][2]);
        }
    }
}

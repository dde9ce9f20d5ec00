/** The boundaries that the document names for clips and their editing: promises 4 to 9, 11, 12 and 30, and "CLIPS". */
public final class ClipEdgesTest {
    private static final int MIN = Integer.MIN_VALUE;
    private static final int MAX = Integer.MAX_VALUE;

    public static void main(String[] args) {
        rangesOfAddClip();
        lengthEndsWithTheTimeline();
        newClip();
        twelveClips();
        numbersOfClips();
        neighboursOfNewClip();
        threeClipsOnPosition();
        firstExceptionOfAddClip();
        numbersThatAreNoClips();
        rangesOfSetFades();
        rangesOfMoveClip();
        neighboursOfMovedClip();
        numberOfMovedClip();
        rangesOfTrimClip();
        fadesOfTrimmedClip();
        neighboursOfTrimmedClip();
        offsetOfTrimmedClip();
        rangesOfSplitClip();
        partsOfSplitClip();
        neighboursOfSplitClip();
        splitWithTwelveClips();
        offsetOfSplitClip();
        removedClips();
        propertiesOfClip();
        lengthOfAll();
        Check.end();
    }

    // Each row is a clip: track, start, length; all of source 0, without an offset.
    private static Edge.Maker clips(int... rows) {
        return () -> {
            ClipMixer x = new ClipMixer();
            x.setSource(0, ClipMixer.CONSTANT, 1000, 1, 4000);
            for (int k = 0; k + 2 < rows.length; k += 3) {
                x.addClip(rows[k], 0, rows[k + 1], 0, rows[k + 2], 1000);
            }
            return x;
        };
    }

    private static Edge.Maker one(int start, int offset, int length) {
        return () -> {
            ClipMixer x = new ClipMixer();
            x.addClip(2, 5, start, offset, length, 1000);
            return x;
        };
    }

    private static Edge.Maker row(int count) {
        return () -> {
            ClipMixer x = new ClipMixer();
            for (int k = 0; k < count; k++) {
                x.addClip(k % 4, 0, 100 * k, 0, 100, 1000);
            }
            return x;
        };
    }

    private static void clipIs(String what, ClipMixer x, int clip, int... due) {
        for (int k = 0; k < due.length; k++) {
            Check.same(what + ": clip(" + clip + ", " + k + ")", x.clip(clip, k), due[k]);
        }
    }

    // "track: 0 to 3", "source: 0 to 5", "start: 0 to 3999", "offset: 0 to 3999", "gain: 0 to 2000"
    private static void rangesOfAddClip() {
        Edge.range("track", Edge::rich, 0, 3, Edge.ARGUMENT, (x, v) -> x.addClip(v, 0, 3999, 0, 1, 5));
        Edge.range("source", Edge::rich, 0, 5, Edge.ARGUMENT, (x, v) -> x.addClip(2, v, 0, 0, 1, 5));
        Edge.range("start", Edge::rich, 0, 3999, Edge.ARGUMENT, (x, v) -> x.addClip(2, 0, v, 0, 1, 5));
        Edge.range("offset", Edge::rich, 0, 3999, Edge.ARGUMENT, (x, v) -> x.addClip(2, 0, 0, v, 1, 5));
        Edge.range("gain", Edge::rich, 0, 2000, Edge.ARGUMENT, (x, v) -> x.addClip(2, 0, 0, 0, 1, v));
    }

    // "length: 1 to 4000 - start"
    private static void lengthEndsWithTheTimeline() {
        for (int start : new int[] {0, 1, 100, 3998, 3999}) {
            Edge.range("length from " + start, Edge::empty, 1, 4000 - start, Edge.ARGUMENT,
                    (x, v) -> x.addClip(1, 0, start, 3999, v, 5));
        }
        Edge.refused("a length that would run over", Edge::empty, Edge.ARGUMENT,
                x -> x.addClip(0, 0, MIN, 0, MIN, 5));
        Edge.refused("a start that would run over", Edge::empty, Edge.ARGUMENT, x -> x.addClip(0, 0, MAX, 0, 1, 5));
        Edge.refused("both together would run over", Edge::empty, Edge.ARGUMENT,
                x -> x.addClip(0, 0, MAX, 0, MAX, 5));
        Edge.refused("an empty clip behind the timeline", Edge::empty, Edge.ARGUMENT,
                x -> x.addClip(0, 0, 4000, 0, 0, 5));
    }

    // "0 for a new clip", "LINEAR (0, for a new clip)"
    private static void newClip() {
        ClipMixer x = new ClipMixer();
        Check.same("all greatest", x.addClip(3, 5, 3999, 3999, 1, 2000), 0);
        clipIs("all greatest", x, 0, 3, 5, 3999, 3999, 1, 2000, 0, 0, 0);
        Check.same("all least", x.addClip(0, 0, 0, 0, 4000, 0), 0);
        clipIs("all least", x, 0, 0, 0, 0, 0, 4000, 0, 0, 0, 0);
        x.setFades(0, 1, 2, 1);
        x.removeClip(0);
        x.addClip(0, 0, 0, 0, 1, 0);
        clipIs("in the place of another one", x, 0, 0, 0, 0, 0, 1, 0, 0, 0, 0);
    }

    // "at most 12 clips on all tracks together"
    private static void twelveClips() {
        for (int track = 0; track < 4; track++) {
            int each = track;
            Edge.answers("the 12th clip", row(11), 12, x -> {
                x.addClip(each, 0, 1200, 0, 1, 5);
                return x.clips();
            });
            Edge.refused("the 13th clip", row(12), Edge.STATE, x -> x.addClip(each, 0, 1200, 0, 1, 5));
        }
        ClipMixer x = row(12).make();
        x.removeClip(7);
        Check.same("room again", x.addClip(2, 0, 600, 0, 100, 5), 7);
        Check.fails("full again", x, Edge.STATE, () -> x.addClip(3, 0, 1200, 0, 1, 5));
        Check.same("all 12", x.clips(), 12);
        x.undo();
        Check.same("11 after undo()", x.clips(), 11);
        Check.same("room after undo()", x.addClip(0, 0, 3999, 0, 1, 5), 3);
        Check.same("deleted time makes room", x.deleteTime(0, 3999, 4000), 1);
        Check.same("room after deleteTime()", x.addClip(0, 0, 3999, 0, 1, 5), 3);
    }

    // "numbered from 0 in the order of their tracks, and on a track in the order of their starts"
    private static void numbersOfClips() {
        ClipMixer x = new ClipMixer();
        int[][] due = {{3, 0, 0}, {0, 3999, 0}, {2, 0, 1}, {2, 3999, 2}, {2, 1, 2}, {1, 5, 1}, {0, 0, 0}, {3, 1, 7},
            {0, 3998, 1}};
        for (int[] d : due) {
            Check.same("a clip on track " + d[0] + " at " + d[1], x.addClip(d[0], 0, d[1], 0, 1, 5), d[2]);
        }
        int[][] all = {{0, 0}, {0, 3998}, {0, 3999}, {1, 5}, {2, 0}, {2, 1}, {2, 3999}, {3, 0}, {3, 1}};
        for (int k = 0; k < all.length; k++) {
            Check.same("the track of clip " + k, x.clip(k, 0), all[k][0]);
            Check.same("the start of clip " + k, x.clip(k, 2), all[k][1]);
        }
    }

    // "No two clips of a track may have the same start or the same end, and ... the one that starts first must end
    // first"
    private static void neighboursOfNewClip() {
        Edge.Maker made = clips(1, 100, 100);
        int[][] conflicts = {{100, 100}, {100, 99}, {100, 101}, {100, 1}, {99, 101}, {101, 99}, {199, 1}, {101, 98},
            {150, 1}, {99, 102}, {0, 4000}, {0, 200}, {100, 3900}};
        for (int[] c : conflicts) {
            Edge.refused("a clip at " + c[0] + " of " + c[1], made, Edge.CONFLICT,
                    x -> x.addClip(1, 0, c[0], 0, c[1], 5));
            Edge.answers("on another track at " + c[0] + " of " + c[1], made, 0,
                    x -> x.addClip(0, 0, c[0], 0, c[1], 5));
        }
        int[][] fine = {{101, 100, 1}, {99, 100, 0}, {99, 1, 0}, {99, 2, 0}, {0, 199, 0}, {101, 3899, 1},
            {199, 2, 1}, {200, 1, 1}, {98, 1, 0}};
        for (int[] f : fine) {
            Edge.answers("a clip at " + f[0] + " of " + f[1], made, f[2], x -> x.addClip(1, 0, f[0], 0, f[1], 5));
        }
    }

    // "no position may be covered by three clips of a track"
    private static void threeClipsOnPosition() {
        Edge.Maker crossed = clips(2, 100, 100, 2, 150, 100);
        Edge.refused("a third one behind, one position", crossed, Edge.CONFLICT, x -> x.addClip(2, 0, 199, 0, 99, 5));
        Edge.answers("a third one that touches the first", crossed, 2, x -> x.addClip(2, 0, 200, 0, 99, 5));
        Edge.refused("a third one before, one position", crossed, Edge.CONFLICT, x -> x.addClip(2, 0, 50, 0, 101, 5));
        Edge.answers("a third one that touches the second", crossed, 0, x -> x.addClip(2, 0, 50, 0, 100, 5));
        Edge.refused("a third one between", crossed, Edge.CONFLICT, x -> x.addClip(2, 0, 120, 0, 100, 5));
        Edge.Maker little = clips(2, 100, 100, 2, 199, 100);
        Edge.refused("a third one over one position", little, Edge.CONFLICT, x -> x.addClip(2, 0, 150, 0, 100, 5));
        Edge.Maker touching = clips(2, 100, 100, 2, 200, 100);
        Edge.answers("a third one over two that touch", touching, 1, x -> x.addClip(2, 0, 150, 0, 100, 5));
        Edge.answers("a chain of four", clips(2, 0, 100, 2, 50, 100, 2, 100, 100), 3,
                x -> x.addClip(2, 0, 150, 0, 100, 5));
        Edge.answers("a third clip of another track", crossed, 0, x -> x.addClip(1, 0, 160, 0, 10, 5));
    }

    private static void firstExceptionOfAddClip() {
        Edge.refused("out of range and full", row(12), Edge.ARGUMENT, x -> x.addClip(0, 0, 0, 0, 0, 5));
        Edge.refused("full and the same start", row(12), Edge.STATE, x -> x.addClip(0, 0, 0, 0, 50, 5));
        Edge.refused("out of range and the same start", row(11), Edge.ARGUMENT, x -> x.addClip(0, 0, 0, 0, 50, 2001));
        Edge.refused("no track and full", row(12), Edge.ARGUMENT, x -> x.addClip(4, 0, 0, 0, 50, 5));
        Edge.refused("no source and full", row(12), Edge.ARGUMENT, x -> x.addClip(0, 6, 0, 0, 50, 5));
    }

    // "if there is no such clip", on the empty mixer, on the full one, and on both sides of those between
    private static void numbersThatAreNoClips() {
        for (int count : new int[] {0, 1, 11, 12}) {
            for (int clip : new int[] {-1, count, count + 1, MIN, MAX}) {
                String what = "clip " + clip + " of " + count + ": ";
                Edge.refused(what + "setFades", row(count), Edge.BOUNDS, x -> x.setFades(clip, 0, 0, 0));
                Edge.refused(what + "moveClip", row(count), Edge.BOUNDS, x -> x.moveClip(clip, 3900));
                Edge.refused(what + "trimClip", row(count), Edge.BOUNDS, x -> x.trimClip(clip, 0, 0));
                Edge.refused(what + "splitClip", row(count), Edge.BOUNDS, x -> x.splitClip(clip, 50));
                Edge.refused(what + "removeClip", row(count), Edge.BOUNDS, x -> x.removeClip(clip));
                Edge.refused(what + "clip", row(count), Edge.BOUNDS, x -> x.clip(clip, 0));
                Edge.refused(what + "clipValue", row(count), Edge.BOUNDS, x -> x.clipValue(clip, 0));
                Edge.refused(what + "setFades, bad", row(count), Edge.BOUNDS, x -> x.setFades(clip, -1, 0, 0));
                Edge.refused(what + "moveClip, bad", row(count), Edge.BOUNDS, x -> x.moveClip(clip, -1));
                Edge.refused(what + "trimClip, bad", row(count), Edge.BOUNDS, x -> x.trimClip(clip, -1, 0));
                Edge.refused(what + "splitClip, bad", row(count), Edge.BOUNDS, x -> x.splitClip(clip, -1));
                Edge.refused(what + "clip, bad", row(count), Edge.BOUNDS, x -> x.clip(clip, 9));
                Edge.refused(what + "clipValue, bad", row(count), Edge.BOUNDS, x -> x.clipValue(clip, -1));
            }
        }
        Edge.answers("the last of 12", row(12), 0, x -> x.setFades(11, 5, 5, 1));
        Edge.answers("the first of 12", row(12), 0, x -> x.setFades(0, 5, 5, 1));
    }

    // "fadeIn: 0 to 4000", "fadeOut: 0 to 4000", "curve: LINEAR or SQUARE_CURVE"
    private static void rangesOfSetFades() {
        Edge.range("fadeIn", Edge::rich, 0, 4000, Edge.ARGUMENT, (x, v) -> x.setFades(1, v, 5, 1));
        Edge.range("fadeOut", Edge::rich, 0, 4000, Edge.ARGUMENT, (x, v) -> x.setFades(1, 5, v, 1));
        Edge.range("curve", Edge::rich, 0, 1, Edge.ARGUMENT, (x, v) -> x.setFades(1, 5, 5, v));
        ClipMixer x = one(0, 0, 1).make();
        Check.same("0 at first", x.setFades(0, 4000, 0, 1), 0);
        clipIs("a fade-in longer than the clip", x, 0, 2, 5, 0, 0, 1, 1000, 4000, 0, 1);
        Check.same("the longest fade-in", x.setFades(0, 0, 4000, 0), 4000);
        clipIs("a fade-out longer than the clip", x, 0, 2, 5, 0, 0, 1, 1000, 0, 4000, 0);
        Check.same("the previous fade-in, not the fade-out", x.setFades(0, 0, 0, 0), 0);
    }

    // "start: 0 to 4000 - length of the clip"
    private static void rangesOfMoveClip() {
        for (int length : new int[] {1, 2, 100, 3999, 4000}) {
            Edge.range("start of a clip of " + length, one(0, 7, length), 0, 4000 - length, Edge.ARGUMENT,
                    (x, v) -> x.moveClip(0, v));
            Edge.answers("its place", one(0, 7, length), 4000 - length, x -> x.moveClip(0, 4000 - length)
                    + x.clip(0, 2));
        }
        ClipMixer x = one(100, 7, 30).make();
        x.setFades(0, 4000, 31, 1);
        x.moveClip(0, 3970);
        clipIs("a moved clip", x, 0, 2, 5, 3970, 7, 30, 1000, 4000, 31, 1);
    }

    private static void neighboursOfMovedClip() {
        Edge.Maker made = clips(1, 100, 100, 1, 1000, 50);
        int[][] conflicts = {{100, 1}, {150, 1}, {149, 1}, {101, 1}};
        for (int[] c : conflicts) {
            Edge.refused("moved to " + c[0], made, Edge.CONFLICT, x -> x.moveClip(c[1], c[0]));
        }
        Edge.answers("one behind the same end", made, 1, x -> x.moveClip(1, 151));
        Edge.answers("one before the same start", made, 0, x -> x.moveClip(1, 99));
        Edge.refused("a short clip gets a long one around it", made, Edge.CONFLICT, x -> x.moveClip(0, 990));
        Edge.refused("the same end from before", made, Edge.CONFLICT, x -> x.moveClip(0, 950));
        Edge.answers("one before the same end", made, 0, x -> x.moveClip(0, 949));
        Edge.refused("the same start", made, Edge.CONFLICT, x -> x.moveClip(0, 1000));
        Edge.answers("one behind the same start", made, 1, x -> x.moveClip(0, 1001));
        Edge.Maker crossed = clips(1, 100, 100, 1, 150, 100, 1, 1000, 100);
        Edge.refused("a third one behind, one position", crossed, Edge.CONFLICT, x -> x.moveClip(2, 199));
        Edge.answers("a third one that touches the first", crossed, 2, x -> x.moveClip(2, 200));
        Edge.refused("a third one before, one position", crossed, Edge.CONFLICT, x -> x.moveClip(2, 51));
        Edge.answers("a third one that touches the second", crossed, 0, x -> x.moveClip(2, 50));
        Edge.refused("out of range before a conflict", clips(1, 3950, 10, 1, 100, 100), Edge.ARGUMENT,
                x -> x.moveClip(0, 3950));
        Edge.answers("the same place on another track", clips(1, 100, 100, 2, 0, 100), 1, x -> x.moveClip(1, 100));
        Edge.answers("its own old place does not count", clips(1, 100, 100), 0, x -> x.moveClip(0, 101));
    }

    // "Returns the number of the clip then."
    private static void numberOfMovedClip() {
        Edge.Maker made = clips(0, 0, 10, 1, 100, 10, 1, 200, 10, 1, 300, 10, 2, 0, 10);
        int[][] due = {{2, 200, 2}, {2, 0, 1}, {2, 99, 1}, {2, 101, 2}, {2, 299, 2}, {2, 301, 3}, {2, 3990, 3},
            {1, 3990, 3}, {3, 0, 1}, {1, 201, 2}, {0, 3990, 0}, {4, 3990, 4}, {3, 300, 3}};
        for (int[] d : due) {
            Edge.answers("clip " + d[0] + " moved to " + d[1], made, d[2], x -> x.moveClip(d[0], d[1]));
            Edge.answers("and it is there", made, d[1], x -> x.clip(x.moveClip(d[0], d[1]), 2));
        }
    }

    // "front: 0 or more", "back: 0 or more; front + back is less than the length of the clip"
    private static void rangesOfTrimClip() {
        Edge.Maker made = one(100, 7, 100);
        Edge.range("front", made, 0, 99, Edge.ARGUMENT, (x, v) -> x.trimClip(0, v, 0));
        Edge.range("back", made, 0, 99, Edge.ARGUMENT, (x, v) -> x.trimClip(0, 0, v));
        Edge.range("front with a back", made, 0, 59, Edge.ARGUMENT, (x, v) -> x.trimClip(0, v, 40));
        Edge.range("back with a front", made, 0, 59, Edge.ARGUMENT, (x, v) -> x.trimClip(0, 40, v));
        Edge.range("front of the shortest clip", one(0, 0, 1), 0, 0, Edge.ARGUMENT, (x, v) -> x.trimClip(0, v, 0));
        Edge.range("back of the shortest clip", one(0, 0, 1), 0, 0, Edge.ARGUMENT, (x, v) -> x.trimClip(0, 0, v));
        int[][] over = {{MAX, MAX}, {MAX, 1}, {1, MAX}, {MAX, MIN}, {MIN, MAX}, {MIN, MIN}, {-1, 1}, {1, -1}, {-1, 100},
            {100, -1}, {MAX - 50, MAX}};
        for (int[] f : over) {
            Edge.refused("trimmed by " + f[0] + " and " + f[1], made, Edge.ARGUMENT, x -> x.trimClip(0, f[0], f[1]));
        }
        int[][] due = {{0, 0, 100, 7, 100}, {99, 0, 199, 106, 1}, {0, 99, 100, 7, 1}, {40, 59, 140, 47, 1},
            {1, 1, 101, 8, 98}};
        for (int[] d : due) {
            ClipMixer x = made.make();
            Check.same("the new length", x.trimClip(0, d[0], d[1]), d[4]);
            clipIs("trimmed by " + d[0] + " and " + d[1], x, 0, 2, 5, d[2], d[3], d[4], 1000, 0, 0, 0);
        }
    }

    // "If the fade-in or fade-out length is greater than the new length, it becomes the new length."
    private static void fadesOfTrimmedClip() {
        int[][] due = {{59, 59, 59, 59}, {60, 60, 60, 60}, {61, 61, 60, 60}, {4000, 0, 60, 0}, {0, 4000, 0, 60},
            {61, 59, 60, 59}, {59, 61, 59, 60}};
        for (int[] d : due) {
            ClipMixer x = one(0, 0, 100).make();
            x.setFades(0, d[0], d[1], 1);
            x.trimClip(0, 25, 15);
            clipIs("fades of " + d[0] + " and " + d[1], x, 0, 2, 5, 25, 25, 60, 1000, d[2], d[3], 1);
        }
    }

    // "if the clips of the track would not be in order"
    private static void neighboursOfTrimmedClip() {
        Edge.Maker made = clips(3, 0, 100, 3, 50, 100);
        Edge.answers("its start just before the next one", made, 51, x -> x.trimClip(0, 49, 0));
        Edge.refused("its start on the next one", made, Edge.CONFLICT, x -> x.trimClip(0, 50, 0));
        Edge.refused("its start behind the next one", made, Edge.CONFLICT, x -> x.trimClip(0, 51, 0));
        Edge.refused("one position of it is left", made, Edge.CONFLICT, x -> x.trimClip(0, 99, 0));
        Edge.answers("its end just behind the one before", made, 51, x -> x.trimClip(1, 0, 49));
        Edge.refused("its end on the one before", made, Edge.CONFLICT, x -> x.trimClip(1, 0, 50));
        Edge.refused("its end before the one before", made, Edge.CONFLICT, x -> x.trimClip(1, 0, 51));
        Edge.refused("one position of the other one is left", made, Edge.CONFLICT, x -> x.trimClip(1, 0, 99));
        Edge.refused("nothing is left of it, in no order", made, Edge.ARGUMENT, x -> x.trimClip(0, 100, 0));
        Edge.refused("nothing is left of the other one", made, Edge.ARGUMENT, x -> x.trimClip(1, 0, 100));
        Edge.answers("both cut to where they part", made, 50, x -> x.trimClip(0, 0, 50) + x.trimClip(1, 50, 0) - 50);
        Edge.answers("another track", clips(2, 0, 100, 3, 50, 100), 50, x -> x.trimClip(0, 50, 0));
    }

    // "or the new offset would be greater than 3999"
    private static void offsetOfTrimmedClip() {
        Edge.range("front up to the offset 3999", one(0, 3950, 100), 0, 49, Edge.ARGUMENT,
                (x, v) -> x.trimClip(0, v, 0));
        Edge.range("front from the offset 3999", one(0, 3999, 100), 0, 0, Edge.ARGUMENT,
                (x, v) -> x.trimClip(0, v, 0));
        Edge.answers("back at the offset 3999", one(0, 3999, 100), 1, x -> x.trimClip(0, 0, 99));
        Edge.answers("the offset 3999", one(0, 3950, 100), 3999, x -> x.trimClip(0, 49, 0) * 0 + x.clip(0, 3));
        Edge.Maker made = Edge.with(Edge::empty, x -> {
            x.addClip(0, 0, 0, 3990, 100, 1000);
            x.addClip(0, 0, 10, 0, 100, 1000);
        });
        Edge.refused("the offset before the order", made, Edge.ARGUMENT, x -> x.trimClip(0, 10, 0));
        Edge.answers("just neither of them", made, 91, x -> x.trimClip(0, 9, 0));
    }

    // "position: greater than the start and less than the end of the clip"
    private static void rangesOfSplitClip() {
        Edge.range("position", one(100, 7, 50), 101, 149, Edge.ARGUMENT, (x, v) -> x.splitClip(0, v));
        Edge.range("position in a clip of two", one(0, 7, 2), 1, 1, Edge.ARGUMENT, (x, v) -> x.splitClip(0, v));
        Edge.range("position in the longest clip", one(0, 0, 4000), 1, 3999, Edge.ARGUMENT,
                (x, v) -> x.splitClip(0, v));
        for (int position : new int[] {99, 100, 101, MIN, MAX}) {
            Edge.refused("a clip of one at " + position, one(100, 0, 1), Edge.ARGUMENT,
                    x -> x.splitClip(0, position));
        }
    }

    // "The first part keeps the fade-in length (but at most its length) and gets the fade-out length 0; the second part
    // keeps the fade-out length (but at most its length) and gets the fade-in length 0."
    private static void partsOfSplitClip() {
        int[][] due = {{39, 59, 39, 59}, {40, 60, 40, 60}, {41, 61, 40, 60}, {4000, 4000, 40, 60}, {0, 0, 0, 0}};
        for (int[] d : due) {
            ClipMixer x = new ClipMixer();
            x.addClip(1, 4, 100, 3000, 100, 1700);
            x.setFades(0, d[0], d[1], 1);
            Check.same("the second part", x.splitClip(0, 140), 1);
            clipIs("first part, fades " + d[0], x, 0, 1, 4, 100, 3000, 40, 1700, d[2], 0, 1);
            clipIs("second part, fades " + d[1], x, 1, 1, 4, 140, 3040, 60, 1700, 0, d[3], 1);
            Check.same("two parts", x.clips(), 2);
        }
        ClipMixer x = one(0, 0, 4000).make();
        x.setFades(0, 4000, 4000, 0);
        Check.same("the last position is the second part", x.splitClip(0, 3999), 1);
        clipIs("all but one", x, 0, 2, 5, 0, 0, 3999, 1000, 3999, 0, 0);
        clipIs("one", x, 1, 2, 5, 3999, 3999, 1, 1000, 0, 1, 0);
        Check.same("the first position is the first part", x.splitClip(0, 1), 1);
        clipIs("one at the beginning", x, 0, 2, 5, 0, 0, 1, 1000, 1, 0, 0);
        clipIs("the middle", x, 1, 2, 5, 1, 1, 3998, 1000, 0, 0, 0);
        Check.same("behind other clips", Edge.rich().splitClip(3, 501), 4);
    }

    private static void neighboursOfSplitClip() {
        Edge.Maker made = clips(0, 0, 100, 0, 50, 100);
        Edge.answers("just before the next start", made, 1, x -> x.splitClip(0, 49));
        Edge.refused("on the next start", made, Edge.CONFLICT, x -> x.splitClip(0, 50));
        Edge.refused("behind the next start", made, Edge.CONFLICT, x -> x.splitClip(0, 51));
        Edge.refused("before its end", made, Edge.CONFLICT, x -> x.splitClip(0, 99));
        Edge.refused("behind the start", made, Edge.CONFLICT, x -> x.splitClip(1, 51));
        Edge.refused("before the end before", made, Edge.CONFLICT, x -> x.splitClip(1, 99));
        Edge.refused("on the end before", made, Edge.CONFLICT, x -> x.splitClip(1, 100));
        Edge.answers("just behind the end before", made, 2, x -> x.splitClip(1, 101));
        Edge.answers("the same on two tracks", clips(0, 0, 100, 1, 50, 100), 1, x -> x.splitClip(0, 50));
    }

    private static void splitWithTwelveClips() {
        Edge.answers("the 12th clip", row(11), 12, x -> {
            x.splitClip(10, 750);
            return x.clips();
        });
        Edge.refused("a 13th clip", row(12), Edge.STATE, x -> x.splitClip(0, 50));
        Edge.refused("a 13th clip at no position", row(12), Edge.ARGUMENT, x -> x.splitClip(0, 100));
        Edge.Maker crossed = Edge.with(row(10), x -> {
            x.addClip(3, 0, 3000, 3990, 100, 5);
            x.addClip(3, 0, 3010, 0, 100, 5);
        });
        Edge.refused("a 13th clip in no order", crossed, Edge.STATE, x -> x.splitClip(11, 3050));
        Edge.refused("a 13th clip with no offset", crossed, Edge.ARGUMENT, x -> x.splitClip(10, 3010));
        Edge.refused("one clip less: in no order", Edge.with(crossed, x -> x.removeClip(0)), Edge.CONFLICT,
                x -> x.splitClip(10, 3050));
        Edge.refused("one clip less: no offset", Edge.with(crossed, x -> x.removeClip(0)), Edge.ARGUMENT,
                x -> x.splitClip(9, 3010));
    }

    // "or the offset of the second part would be greater than 3999"
    private static void offsetOfSplitClip() {
        Edge.range("position up to the offset 3999", one(1000, 3950, 100), 1001, 1049, Edge.ARGUMENT,
                (x, v) -> x.splitClip(0, v));
        Edge.answers("the offset 3999", one(1000, 3950, 100), 3999, x -> x.clip(x.splitClip(0, 1049), 3));
        Edge.refused("no position from the offset 3999 on", one(1000, 3999, 100), Edge.ARGUMENT,
                x -> x.splitClip(0, 1001));
    }

    // "Returns the number of clips that are left."
    private static void removedClips() {
        ClipMixer x = row(12).make();
        for (int left = 11; left >= 0; left--) {
            Check.same("clips before", x.clips(), left + 1);
            Check.same("removed", x.removeClip(left % 2 == 0 ? 0 : left), left);
        }
        Check.same("none is left", x.clips(), 0);
        Check.fails("nothing to remove", x, Edge.BOUNDS, () -> x.removeClip(0));
        Check.same("one came back", x.undo() * 0 + x.clips(), 1);
    }

    // "what: 0 track, ... 8 curve"
    private static void propertiesOfClip() {
        Edge.range("what of the first clip", Edge::rich, 0, 8, Edge.ARGUMENT, (x, v) -> x.clip(0, v));
        Edge.range("what of the last clip", Edge::rich, 0, 8, Edge.ARGUMENT, (x, v) -> x.clip(3, v));
        Edge.range("what of the 12th clip", row(12), 0, 8, Edge.ARGUMENT, (x, v) -> x.clip(11, v));
    }

    // "Returns the end; 0 without clips."
    private static void lengthOfAll() {
        Edge.answers("without clips", Edge::empty, 0, x -> x.length());
        Edge.answers("the shortest clip", one(0, 0, 1), 1, x -> x.length());
        Edge.answers("the last position", one(3999, 0, 1), 4000, x -> x.length());
        Edge.answers("a clip of an earlier track ends last", clips(0, 0, 500, 1, 0, 499, 2, 0, 1), 500,
                x -> x.length());
        Edge.answers("a clip of the last track ends last", clips(0, 0, 500, 3, 0, 501), 501, x -> x.length());
        Edge.answers("12 clips", row(12), 1200, x -> x.length());
        ClipMixer x = one(0, 0, 1).make();
        x.removeClip(0);
        Check.same("all clips removed", x.length(), 0);
    }
}

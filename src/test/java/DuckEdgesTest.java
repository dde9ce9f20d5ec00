/** The boundaries that the document names for ducking: promises 18 to 20. */
public final class DuckEdgesTest {
    private static final int MIN = Integer.MIN_VALUE;
    private static final int MAX = Integer.MAX_VALUE;

    public static void main(String[] args) {
        rangesOfDuck();
        firstException();
        trackItself();
        keyThatIsDucked();
        trackThatIsKey();
        previousKeys();
        endDuck();
        rangesOfDuckGain();
        notDucked();
        beginning();
        slopes();
        floors();
        releases();
        steepest();
        flattest();
        wholeTimeline();
        eachPositionOfWindow();
        lastWindows();
        thresholds();
        greatestThreshold();
        levels();
        valueOfDuckedTrack();
        twoTracksWithOneKey();
        eachTrackByEachKey();
        Check.end();
    }

    // Track 1 is the key: 4000 from start on, of this length; track 0 sounds all the time with 1 and -1 by turns.
    private static Edge.Maker key(int start, int length, int threshold, int floorGain, int attack, int release) {
        return () -> {
            ClipMixer x = new ClipMixer();
            x.setSource(0, ClipMixer.SQUARE, 1, 2, 4000);
            x.setSource(1, ClipMixer.CONSTANT, 4000, 1, 4000);
            x.addClip(0, 0, 0, 0, 4000, 1000);
            x.addClip(1, 1, start, 0, length, 1000);
            x.duck(0, 1, threshold, floorGain, attack, release);
            return x;
        };
    }

    private static void gainsAre(String what, Edge.Maker made, int[]... due) {
        for (int[] d : due) {
            Edge.answers(what + " at " + d[0], made, d[1], x -> x.duckGain(0, d[0]));
        }
        ClipMixer x = made.make();
        for (int k = due.length - 1; k >= 0; k--) {
            Check.same(what + ", asked from the end, at " + due[k][0], x.duckGain(0, due[k][0]), due[k][1]);
        }
    }

    // "threshold: 0 to 100000", "floorGain: 0 to 1000", "attack: 1 to 1000", "release: 1 to 1000", "key is no track"
    private static void rangesOfDuck() {
        Edge.range("track", Edge::empty, 0, 3, Edge.BOUNDS, (x, v) -> x.duck(v, v == 0 ? 1 : 0, 5, 5, 5, 5));
        Edge.range("key of track 0", Edge::empty, 1, 3, Edge.ARGUMENT,
                (x, v) -> x.duck(0, v == 0 ? -1 : v, 5, 5, 5, 5));
        Edge.range("key of track 3", Edge::empty, 0, 2, Edge.ARGUMENT,
                (x, v) -> x.duck(3, v == 3 ? 4 : v, 5, 5, 5, 5));
        Edge.range("threshold", Edge::rich, 0, 100000, Edge.ARGUMENT, (x, v) -> x.duck(0, 1, v, 5, 5, 5));
        Edge.range("floor gain", Edge::rich, 0, 1000, Edge.ARGUMENT, (x, v) -> x.duck(0, 1, 5, v, 5, 5));
        Edge.range("attack", Edge::rich, 1, 1000, Edge.ARGUMENT, (x, v) -> x.duck(0, 1, 5, 5, v, 5));
        Edge.range("release", Edge::rich, 1, 1000, Edge.ARGUMENT, (x, v) -> x.duck(0, 1, 5, 5, 5, v));
    }

    private static void firstException() {
        Edge.refused("no track and no key", Edge::rich, Edge.BOUNDS, x -> x.duck(4, 4, 5, 5, 5, 5));
        Edge.refused("no track and no attack", Edge::rich, Edge.BOUNDS, x -> x.duck(-1, 1, 5, 5, 0, 5));
        Edge.refused("no track, itself the key", Edge::rich, Edge.BOUNDS, x -> x.duck(-1, -1, 5, 5, 5, 5));
        Edge.refused("itself, and no threshold", Edge::rich, Edge.ARGUMENT, x -> x.duck(3, 3, -1, 5, 5, 5));
        Edge.refused("a ducked key, and no floor gain", Edge::rich, Edge.ARGUMENT, x -> x.duck(3, 0, 5, 1001, 5, 5));
        Edge.refused("a track that is a key, and no key", Edge::rich, Edge.ARGUMENT, x -> x.duck(1, 4, 5, 5, 5, 5));
        Edge.refused("a track that is a key, and no release", Edge::rich, Edge.ARGUMENT,
                x -> x.duck(1, 2, 5, 5, 5, 0));
    }

    private static void trackItself() {
        for (int track = 0; track < 4; track++) {
            int each = track;
            Edge.refused("track " + track + " by itself", Edge::empty, Edge.STATE, x -> x.duck(each, each, 5, 5, 5, 5));
            Edge.refused("track " + track + " by itself, beside others", Edge::rich, Edge.STATE,
                    x -> x.duck(each, each, 5, 5, 5, 5));
        }
    }

    private static void keyThatIsDucked() {
        for (int track : new int[] {2, 3}) {
            Edge.refused("track " + track + " by a ducked one", Edge::rich, Edge.STATE,
                    x -> x.duck(track, 0, 5, 5, 5, 5));
            Edge.answers("by one that is not ducked any more", Edge.with(Edge::rich, x -> x.endDuck(0)), -1,
                    x -> x.duck(track, 0, 5, 5, 5, 5));
            Edge.answers("by the key of another one", Edge::rich, -1, x -> x.duck(track, 1, 5, 5, 5, 5));
        }
        Edge.refused("two by each other", Edge::rich, Edge.STATE, x -> x.duck(1, 0, 5, 5, 5, 5));
    }

    private static void trackThatIsKey() {
        for (int other : new int[] {2, 3}) {
            Edge.refused("the key by track " + other, Edge::rich, Edge.STATE, x -> x.duck(1, other, 5, 5, 5, 5));
            Edge.answers("no key any more", Edge.with(Edge::rich, x -> x.endDuck(0)), -1,
                    x -> x.duck(1, other, 5, 5, 5, 5));
            Edge.answers("another one is the key now", Edge.with(Edge::rich, x -> x.duck(0, 5 - other, 5, 5, 5, 5)),
                    -1, x -> x.duck(1, other, 5, 5, 5, 5));
        }
        Edge.Maker twice = Edge.with(Edge::rich, x -> x.duck(2, 1, 5, 5, 5, 5));
        Edge.refused("the key of two", twice, Edge.STATE, x -> x.duck(1, 3, 5, 5, 5, 5));
        Edge.refused("the key of one of two", Edge.with(twice, x -> x.endDuck(0)), Edge.STATE,
                x -> x.duck(1, 3, 5, 5, 5, 5));
        Edge.answers("after undo()", Edge.with(Edge::empty, x -> {
            x.duck(0, 1, 5, 5, 5, 5);
            x.undo();
        }), -1, x -> x.duck(1, 0, 5, 5, 5, 5));
    }

    // "Returns the previous key, NONE if it was not ducked."
    private static void previousKeys() {
        ClipMixer x = new ClipMixer();
        Check.same("not ducked", x.duck(3, 0, 0, 0, 1, 1), ClipMixer.NONE);
        Check.same("the least key", x.duck(3, 2, 100000, 1000, 1000, 1000), 0);
        Check.same("the same key again", x.duck(3, 2, 5, 5, 5, 5), 2);
        Check.same("another track", x.duck(0, 2, 5, 5, 5, 5), ClipMixer.NONE);
        Check.same("a third key", x.duck(0, 1, 5, 5, 5, 5), 2);
        Check.same("its end", x.endDuck(0), 1);
        Check.same("not ducked any more", x.duck(0, 1, 5, 5, 5, 5), ClipMixer.NONE);
    }

    // "Returns the key it had, NONE if it was not ducked."
    private static void endDuck() {
        Edge.range("track of endDuck", Edge::rich, 0, 3, Edge.BOUNDS, (x, v) -> x.endDuck(v));
        Edge.answers("the key it had", Edge::rich, 1, x -> x.endDuck(0));
        Edge.answers("a track that is a key", Edge::rich, ClipMixer.NONE, x -> x.endDuck(1));
        Edge.answers("a track that was never ducked", Edge::empty, ClipMixer.NONE, x -> x.endDuck(3));
        Edge.answers("ended twice", Edge.with(Edge::rich, x -> x.endDuck(0)), ClipMixer.NONE, x -> x.endDuck(0));
        Edge.answers("the key 0", Edge.with(Edge::empty, x -> x.duck(3, 0, 5, 5, 5, 5)), 0, x -> x.endDuck(3));
        Edge.answers("the end of a key leaves the ducking", Edge.with(Edge::rich, x -> x.endDuck(1)), 900,
                x -> x.duckGain(0, 260));
        Edge.answers("saved even without a change", Edge::empty, 0, x -> x.endDuck(3) * 0 + x.undo());
    }

    private static void rangesOfDuckGain() {
        Edge.range("track of duckGain", Edge::rich, 0, 3, Edge.BOUNDS, (x, v) -> x.duckGain(v, 5));
        Edge.range("position of duckGain", Edge::rich, 0, 3999, Edge.ARGUMENT, (x, v) -> x.duckGain(0, v));
        Edge.range("position, not ducked", Edge::rich, 0, 3999, Edge.ARGUMENT, (x, v) -> x.duckGain(1, v));
        for (int track : new int[] {-1, 4, MIN, MAX}) {
            Edge.refused("duckGain, neither", Edge::rich, Edge.BOUNDS, x -> x.duckGain(track, 4000));
        }
    }

    // "1000 if the track is not ducked"
    private static void notDucked() {
        for (int position : new int[] {0, 39, 40, 261, 3999}) {
            for (int track = 1; track < 4; track++) {
                int each = track;
                Edge.answers("the gain of track " + track, key(0, 4000, 0, 0, 1000, 1), 1000,
                        x -> x.duckGain(each, position));
            }
            Edge.answers("after endDuck()", Edge.with(key(0, 4000, 0, 0, 1000, 1), x -> x.endDuck(0)), 1000,
                    x -> x.duckGain(0, position));
        }
    }

    // "D(-1) = D(0) = 1000", and D(1) hangs on the level of window 0
    private static void beginning() {
        gainsAre("loud from the beginning", key(0, 1, 4000, 0, 400, 1), new int[][] {{0, 1000}, {39, 1000},
            {40, 1000}, {41, 990}, {79, 610}, {80, 600}});
        gainsAre("loud from the end of window 0", key(39, 1, 4000, 0, 400, 400), new int[][] {{39, 1000}, {60, 800},
            {80, 600}, {120, 1000}});
        gainsAre("loud from window 1 on", key(40, 1, 4000, 0, 400, 400), new int[][] {{39, 1000}, {79, 1000},
            {80, 1000}, {100, 800}, {120, 600}, {160, 1000}});
    }

    // "D(m - 1) + floor((D(m) - D(m - 1)) * (n - 40 * m) / 40)"
    private static void slopes() {
        gainsAre("one loud window", key(200, 40, 4000, 0, 400, 400), new int[][] {{239, 1000}, {240, 1000}, {241, 990},
            {279, 610}, {280, 600}, {281, 610}, {319, 990}, {320, 1000}, {321, 1000}, {3999, 1000}});
    }

    // "the greater one of the floor gain and D(m - 1) - attack"
    private static void floors() {
        int[][] due = {{599, 600, 599}, {600, 600, 600}, {601, 601, 601}, {1000, 1000, 1000}, {0, 600, 200},
            {200, 600, 200}, {201, 600, 201}};
        for (int[] d : due) {
            gainsAre("the floor gain " + d[0], key(200, 80, 4000, d[0], 400, 1), new int[][] {{240, 1000},
                {280, d[1]}, {320, d[2]}});
        }
        gainsAre("down to 0 and no further", key(0, 4000, 4000, 0, 400, 1), new int[][] {{80, 600}, {120, 200},
            {160, 0}, {200, 0}, {3999, 0}});
    }

    // "otherwise the smaller one of 1000 and D(m - 1) + release"
    private static void releases() {
        int[][] due = {{399, 999, 1000}, {400, 1000, 1000}, {401, 1000, 1000}, {1000, 1000, 1000}, {200, 800, 1000},
            {199, 799, 998}};
        for (int[] d : due) {
            gainsAre("the release " + d[0], key(200, 40, 4000, 0, 400, d[0]), new int[][] {{280, 600}, {320, d[1]},
                {360, d[2]}});
        }
    }

    private static void steepest() {
        gainsAre("attack and release of 1000", key(200, 40, 4000, 0, 1000, 1000), new int[][] {{240, 1000},
            {241, 975}, {279, 25}, {280, 0}, {281, 25}, {319, 975}, {320, 1000}});
    }

    private static void flattest() {
        gainsAre("attack and release of 1", key(200, 40, 4000, 0, 1, 1), new int[][] {{240, 1000}, {241, 999},
            {279, 999}, {280, 999}, {281, 999}, {319, 999}, {320, 1000}});
    }

    // "100 windows of 40 positions"
    private static void wholeTimeline() {
        gainsAre("always loud", key(0, 4000, 4000, 0, 10, 1), new int[][] {{80, 990}, {2000, 510}, {3920, 30},
            {3960, 20}, {3961, 19}, {3999, 10}});
        gainsAre("always loud, to the floor gain 15", key(0, 4000, 4000, 15, 10, 1), new int[][] {{3960, 20},
            {3968, 19}, {3969, 18}, {3999, 15}});
    }

    // "The level of a window is the greatest absolute dry value of the key in it."
    private static void eachPositionOfWindow() {
        for (int n = 200; n < 240; n++) {
            gainsAre("loud at " + n, key(n, 1, 4000, 0, 400, 1), new int[][] {{240, 1000}, {280, 600}, {320, 601}});
        }
        gainsAre("loud just before the window", key(199, 1, 4000, 0, 400, 400), new int[][] {{240, 600}, {280, 1000}});
        gainsAre("loud just behind the window", key(240, 1, 4000, 0, 400, 400), new int[][] {{280, 1000}, {320, 600}});
        gainsAre("loud on both sides of an edge", key(239, 2, 4000, 0, 400, 400), new int[][] {{280, 600},
            {320, 200}, {360, 600}});
    }

    private static void lastWindows() {
        gainsAre("loud in the last window but one", key(3959, 1, 4000, 0, 400, 1), new int[][] {{3960, 1000},
            {3999, 610}});
        gainsAre("loud at its beginning", key(3920, 1, 4000, 0, 400, 1), new int[][] {{3960, 1000}, {3999, 610}});
        gainsAre("loud in the last window", key(3960, 40, 4000, 0, 400, 1), new int[][] {{3960, 1000}, {3999, 1000}});
    }

    // "if the level of window m - 1 is at least the threshold"
    private static void thresholds() {
        int[][] due = {{0, 200}, {1, 600}, {3999, 600}, {4000, 600}, {4001, 1000}, {100000, 1000}};
        for (int[] d : due) {
            Edge.answers("4000 with the threshold " + d[0], key(40, 40, d[0], 0, 400, 1), d[1],
                    x -> x.duckGain(0, 120));
            Edge.Maker negative = Edge.with(key(40, 40, d[0], 0, 400, 1), x -> x.setSource(1, 2, 4000, 1, 4000));
            Edge.answers("-4000 with the threshold " + d[0], negative, d[1], x -> x.duckGain(0, 120));
        }
        Edge.Maker silent = Edge.with(key(0, 4000, 0, 0, 400, 1), x -> x.removeClip(1));
        Edge.answers("the threshold 0 and no clip", silent, 600, x -> x.duckGain(0, 80));
        silent = Edge.with(key(0, 4000, 1, 0, 400, 1), x -> x.removeClip(1));
        Edge.answers("the threshold 1 and no clip", silent, 1000, x -> x.duckGain(0, 80));
        silent = Edge.with(key(0, 4000, 1, 0, 400, 1), x -> x.setSource(1, 0, 0, 1, 4000));
        Edge.answers("the threshold 1 and a clip of 0", silent, 1000, x -> x.duckGain(0, 80));
    }

    private static void greatestThreshold() {
        for (int sign = 0; sign < 2; sign++) {
            int shape = sign == 0 ? ClipMixer.CONSTANT : ClipMixer.SAW;
            for (int threshold : new int[] {79999, 80000, 80001, 100000}) {
                ClipMixer x = new ClipMixer();
                x.setSource(1, shape, 10000, 1, 4000);
                x.addClip(1, 1, 0, 0, 4000, 2000);
                x.setTrack(1, 2000, 0, false, false);
                x.setPoint(1, 0, 2000, true);
                x.duck(0, 1, threshold, 0, 400, 1);
                Check.same("the greatest level and the threshold " + threshold, x.duckGain(0, 80),
                        threshold <= 80000 ? 600 : 1000);
            }
        }
    }

    // The dry value of the key counts: with gain, automation and fades, whether the key is audible or not.
    private static void levels() {
        level("the gain of the key, enough", x -> x.setTrack(1, 500, 0, false, false), 600);
        level("the gain of the key", x -> x.setTrack(1, 499, 0, false, false), 1000);
        level("its automation, enough", x -> x.setPoint(1, 0, 500, true), 600);
        level("its automation", x -> x.setPoint(1, 0, 499, true), 1000);
        level("its fades, enough", x -> x.setFades(1, 78, 0, 0), 600);
        level("its fades", x -> x.setFades(1, 79, 0, 0), 1000);
        level("muted", x -> x.setTrack(1, 1000, 0, true, false), 600);
        level("another one solo", x -> x.setTrack(0, 1000, 0, false, true), 600);
        level("its panorama", x -> x.setTrack(1, 1000, 100, false, false), 600);
        level("the master gain", x -> x.setMaster(0), 600);
        level("the gain of the ducked track", x -> x.setTrack(0, 0, 0, false, false), 600);
    }

    private static void level(String what, Edge.Setup change, int due) {
        Edge.answers(what, Edge.with(key(0, 4000, 2000, 0, 400, 1), change), due, x -> x.duckGain(0, 80));
    }

    // "its dry value, to which its duck gain is applied if it is ducked"
    private static void valueOfDuckedTrack() {
        Edge.Maker made = key(200, 40, 4000, 0, 1, 1);
        int[][] due = {{0, 1}, {1, -1}, {238, 1}, {239, -1}, {240, 1}, {241, -1}, {242, 0}, {243, -1}, {318, 0},
            {320, 1}, {321, -1}};
        for (int[] d : due) {
            Edge.answers("ducked by little at " + d[0], made, d[1], x -> x.trackValue(0, d[0]));
        }
        Edge.Maker deep = key(200, 40, 4000, 0, 1000, 1);
        Edge.answers("ducked to 0", deep, 0, x -> x.trackValue(0, 280));
        Edge.answers("ducked nearly to 0, negative", deep, -1, x -> x.trackValue(0, 279));
        Edge.answers("the key is not ducked", deep, 4000, x -> x.trackValue(1, 239));
        Edge.answers("the mix of both", deep, 4001, x -> x.mix(200, false));
        Edge.answers("not ducked any more", Edge.with(deep, x -> x.endDuck(0)), 1, x -> x.trackValue(0, 280));
    }

    private static void twoTracksWithOneKey() {
        ClipMixer x = key(200, 40, 4000, 0, 400, 400).make();
        x.duck(3, 1, 4001, 0, 400, 400);
        x.duck(2, 1, 4000, 900, 50, 1);
        int[][] due = {{239, 1000, 1000, 1000}, {280, 600, 950, 1000}, {320, 1000, 951, 1000}, {3999, 1000, 1000,
            1000}};
        for (int[] d : due) {
            Check.same("track 0 at " + d[0], x.duckGain(0, d[0]), d[1]);
            Check.same("track 2 at " + d[0], x.duckGain(2, d[0]), d[2]);
            Check.same("track 3 at " + d[0], x.duckGain(3, d[0]), d[3]);
        }
    }

    private static void eachTrackByEachKey() {
        for (int track = 0; track < 4; track++) {
            for (int key = 0; key < 4; key++) {
                if (key != track) {
                    trackByKey(track, key);
                }
            }
        }
    }

    private static void trackByKey(int track, int key) {
        ClipMixer x = new ClipMixer();
        x.setSource(0, ClipMixer.CONSTANT, 1000, 1, 4000);
        for (int t = 0; t < 4; t++) {
            x.addClip(t, 0, t == key ? 200 : 0, 0, t == key ? 40 : 4000, t == key ? 2000 : 1000);
        }
        x.duck(track, key, 2000, 0, 400, 400);
        for (int t = 0; t < 4; t++) {
            String what = "track " + t + ", track " + track + " ducked by " + key;
            Check.same("the gain of " + what, x.duckGain(t, 280), t == track ? 600 : 1000);
            Check.same("the value of " + what, x.trackValue(t, 280), t == key ? 0 : t == track ? 600 : 1000);
        }
        Check.same("the mix of them", x.mix(280, false), 2600);
        Check.same("its end", x.endDuck(track), key);
        Check.same("the mix without it", x.mix(280, true), 3000);
    }
}

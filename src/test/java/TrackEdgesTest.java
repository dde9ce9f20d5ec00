/** The boundaries that the document names for tracks and automation: promises 14 to 17, 21 and 22, and "TRACKS". */
public final class TrackEdgesTest {
    private static final int MIN = Integer.MIN_VALUE;
    private static final int MAX = Integer.MAX_VALUE;

    public static void main(String[] args) {
        rangesOfSetTrack();
        tracksAtFirst();
        rangesOfSetPoint();
        eightPoints();
        replacedPoints();
        rangesOfRemovePoint();
        rangesOfReading();
        laneWithoutPoints();
        laneOfOnePoint();
        rampsOverAll();
        neighbouringPoints();
        holds();
        lanesOfTheirOwn();
        gainsOfTrack();
        valueWhetherAudible();
        soloAndMuted();
        panorama();
        Check.end();
    }

    private static Edge.Maker lane(int... rows) {
        return () -> {
            ClipMixer x = new ClipMixer();
            for (int k = 0; k + 2 < rows.length; k += 3) {
                x.setPoint(2, rows[k], rows[k + 1], rows[k + 2] == 1);
            }
            return x;
        };
    }

    // Eight points, at 0, 500, ... 3500.
    private static ClipMixer full() {
        ClipMixer x = new ClipMixer();
        for (int k = 7; k >= 0; k--) {
            x.setPoint(2, 500 * k, 100 * k, false);
        }
        return x;
    }

    // A track 0 of 1 and -1 by turns.
    private static ClipMixer ones() {
        ClipMixer x = new ClipMixer();
        x.setSource(0, ClipMixer.SQUARE, 1, 2, 4000);
        x.addClip(0, 0, 0, 0, 4000, 1000);
        return x;
    }

    private static void laneIs(String what, Edge.Maker made, int[]... due) {
        ClipMixer x = made.make();
        for (int[] d : due) {
            Check.same(what + " at " + d[0], x.automation(2, d[0]), d[1]);
        }
    }

    // "gain: 0 to 2000", "panorama: -100 to 100"
    private static void rangesOfSetTrack() {
        Edge.range("track", Edge::rich, 0, 3, Edge.BOUNDS, (x, v) -> x.setTrack(v, 5, 5, true, true));
        Edge.range("gain", Edge::rich, 0, 2000, Edge.ARGUMENT, (x, v) -> x.setTrack(3, v, 5, true, true));
        Edge.range("panorama", Edge::rich, -100, 100, Edge.ARGUMENT, (x, v) -> x.setTrack(3, 5, v, true, true));
        Edge.refused("no track and no gain", Edge::rich, Edge.BOUNDS, x -> x.setTrack(4, -1, 0, true, true));
        Edge.refused("no track and no panorama", Edge::rich, Edge.BOUNDS, x -> x.setTrack(-1, 0, 101, true, true));
    }

    // "1000 at first", "At first no track is muted or solo", "its panorama ... 0 at first"
    private static void tracksAtFirst() {
        for (int track = 0; track < 4; track++) {
            int each = track;
            Edge.answers("the gain of a new track", Edge::empty, 1000, x -> x.setTrack(each, 0, 0, false, false));
            Edge.answers("a new track is audible", Edge::empty, 1, x -> x.isAudible(each) ? 1 : 0);
            ClipMixer x = new ClipMixer();
            Check.same("the gain of track " + track, x.setTrack(track, 2000, 0, false, false), 1000);
            Check.same("the greatest gain", x.setTrack(track, 0, 0, false, false), 2000);
            Check.same("the least gain", x.setTrack(track, 1, 0, false, false), 0);
            Check.same("another track", x.setTrack((track + 1) % 4, 1, 0, false, false), 1000);
        }
    }

    // "position: 0 to 3999", "value: 0 to 2000"
    private static void rangesOfSetPoint() {
        Edge.range("track", Edge::rich, 0, 3, Edge.BOUNDS, (x, v) -> x.setPoint(v, 5, 5, true));
        Edge.range("position", Edge::rich, 0, 3999, Edge.ARGUMENT, (x, v) -> x.setPoint(0, v, 5, true));
        Edge.range("value", Edge::rich, 0, 2000, Edge.ARGUMENT, (x, v) -> x.setPoint(0, 5, v, true));
        Edge.range("value of a replaced point", Edge::rich, 0, 2000, Edge.ARGUMENT,
                (x, v) -> x.setPoint(0, 100, v, true));
        Edge.refused("no track and no position", Edge::rich, Edge.BOUNDS, x -> x.setPoint(4, 4000, 5, true));
        Edge.refused("no track and no value", Edge::rich, Edge.BOUNDS, x -> x.setPoint(-1, 5, 2001, true));
    }

    // "if there would be more than 8 points in the lane"
    private static void eightPoints() {
        ClipMixer x = new ClipMixer();
        for (int k = 0; k < 8; k++) {
            Check.same("points of the lane", x.setPoint(2, 3999 - k, 2000, true), k + 1);
        }
        for (int position : new int[] {1, 250, 3501, 3999}) {
            Edge.refused("a ninth point at " + position, TrackEdgesTest::full, Edge.STATE,
                    m -> m.setPoint(2, position, 5, true));
            Edge.answers("a first point of another lane", TrackEdgesTest::full, 1,
                    m -> m.setPoint(1, position, 5, true));
        }
        Edge.refused("a ninth point of no value", TrackEdgesTest::full, Edge.ARGUMENT, m -> m.setPoint(2, 1, -1, true));
        Edge.refused("a ninth point at no position", TrackEdgesTest::full, Edge.ARGUMENT,
                m -> m.setPoint(2, 4000, 5, true));
        Edge.refused("a ninth point of no lane", TrackEdgesTest::full, Edge.BOUNDS, m -> m.setPoint(4, 1, 5, true));
        Edge.answers("the eighth point again", TrackEdgesTest::full, 8, m -> {
            m.removePoint(2, 0);
            return m.setPoint(2, 1, 5, true);
        });
        Edge.answers("the eighth point after undo()", TrackEdgesTest::full, 8, m -> {
            m.undo();
            return m.setPoint(2, 1, 5, true);
        });
    }

    // "a point at the same position is replaced", "No two points of a lane have the same position."
    private static void replacedPoints() {
        for (int position : new int[] {0, 500, 3500}) {
            Edge.answers("a replaced point of eight", TrackEdgesTest::full, 8,
                    x -> x.setPoint(2, position, 2000, false));
            Edge.answers("its value", TrackEdgesTest::full, 2000,
                    x -> x.setPoint(2, position, 2000, false) * 0 + x.automation(2, position));
        }
        laneIs("a ramp replaced by a hold", lane(10, 500, 0, 20, 600, 0, 10, 400, 1), new int[][] {{15, 400},
            {20, 600}});
        laneIs("a hold replaced by a ramp", lane(10, 500, 1, 20, 600, 0, 10, 400, 0), new int[][] {{15, 500},
            {20, 600}});
        Edge.answers("the least position", lane(0, 5, 1), 1, x -> x.setPoint(2, 0, 6, true));
        Edge.answers("the greatest position", lane(3999, 5, 1), 1, x -> x.setPoint(2, 3999, 6, true));
        Edge.answers("the next position", lane(10, 5, 1), 2, x -> x.setPoint(2, 11, 6, true));
        Edge.answers("the position before", lane(10, 5, 1), 2, x -> x.setPoint(2, 9, 6, true));
    }

    // "if there is no point at this position"
    private static void rangesOfRemovePoint() {
        Edge.answers("the only point", lane(5, 5, 1), 0, x -> x.removePoint(2, 5));
        for (int track : new int[] {0, 1, 3}) {
            Edge.refused("the point of another lane", lane(5, 5, 1), Edge.ARGUMENT, x -> x.removePoint(track, 5));
        }
        for (int track : new int[] {-1, 4, MIN, MAX}) {
            Edge.refused("no track", Edge::rich, Edge.BOUNDS, x -> x.removePoint(track, 100));
            Edge.refused("no track and no point", Edge::rich, Edge.BOUNDS, x -> x.removePoint(track, -1));
        }
        for (int position : new int[] {-1, 0, 99, 101, 899, 901, 3999, 4000, MIN, MAX}) {
            Edge.refused("no point at " + position, Edge::rich, Edge.ARGUMENT, x -> x.removePoint(0, position));
            Edge.refused("an empty lane at " + position, Edge::rich, Edge.ARGUMENT, x -> x.removePoint(3, position));
        }
        ClipMixer x = full();
        int[] order = {0, 3500, 1500, 500, 3000, 2500, 1000, 2000};
        for (int k = 0; k < order.length; k++) {
            Check.same("points that are left", x.removePoint(2, order[k]), 7 - k);
            int gone = order[k];
            Check.fails("removed twice", x, Edge.ARGUMENT, () -> x.removePoint(2, gone));
        }
        Check.same("no point is left", x.automation(2, 0), 1000);
        laneIs("the first one removed", Edge.with(TrackEdgesTest::full, m -> m.removePoint(2, 0)),
                new int[][] {{0, 100}, {500, 100}, {750, 150}, {3500, 700}});
        laneIs("the last one removed", Edge.with(TrackEdgesTest::full, m -> m.removePoint(2, 3500)),
                new int[][] {{0, 0}, {3000, 600}, {3999, 600}});
    }

    // "position: 0 to 3999", "IndexOutOfBoundsException if there is no such track"
    private static void rangesOfReading() {
        Edge.range("track of automation", Edge::rich, 0, 3, Edge.BOUNDS, (x, v) -> x.automation(v, 5));
        Edge.range("position of automation", Edge::rich, 0, 3999, Edge.ARGUMENT, (x, v) -> x.automation(0, v));
        Edge.range("position of an empty lane", Edge::rich, 0, 3999, Edge.ARGUMENT, (x, v) -> x.automation(3, v));
        Edge.range("track of trackValue", Edge::rich, 0, 3, Edge.BOUNDS, (x, v) -> x.trackValue(v, 5));
        Edge.range("position of trackValue", Edge::rich, 0, 3999, Edge.ARGUMENT, (x, v) -> x.trackValue(0, v));
        Edge.range("position of an empty track", Edge::rich, 0, 3999, Edge.ARGUMENT, (x, v) -> x.trackValue(2, v));
        Edge.range("track of isAudible", Edge::rich, 0, 3, Edge.BOUNDS, (x, v) -> x.isAudible(v) ? 1 : 0);
        Edge.refused("automation, neither", Edge::rich, Edge.BOUNDS, x -> x.automation(4, 4000));
        Edge.refused("trackValue, neither", Edge::rich, Edge.BOUNDS, x -> x.trackValue(-1, -1));
    }

    // "The automation gain at a position n is 1000 without points"
    private static void laneWithoutPoints() {
        laneIs("no points", Edge::empty, new int[][] {{0, 1000}, {2000, 1000}, {3999, 1000}});
    }

    // "the value of the first point if n is at most its position; the value of the last point if n is at least its"
    private static void laneOfOnePoint() {
        for (int hold = 0; hold < 2; hold++) {
            laneIs("one point", lane(100, 300, hold), new int[][] {{0, 300}, {99, 300}, {100, 300}, {101, 300},
                {3999, 300}});
            laneIs("one point of 0 at 0", lane(0, 0, hold), new int[][] {{0, 0}, {1, 0}, {3999, 0}});
            laneIs("one point of 2000 at the end", lane(3999, 2000, hold), new int[][] {{0, 2000}, {3998, 2000},
                {3999, 2000}});
        }
    }

    // "(value of p) + floor((value of q - value of p) * (n - position of p) / (position of q - position of p))"
    private static void rampsOverAll() {
        laneIs("up", lane(0, 0, 0, 3999, 2000, 0), new int[][] {{0, 0}, {1, 0}, {2, 1}, {3998, 1999}, {3999, 2000}});
        laneIs("down", lane(0, 2000, 0, 3999, 0, 0), new int[][] {{0, 2000}, {1, 1999}, {2, 1998}, {3998, 0},
            {3999, 0}});
        laneIs("up by 1", lane(10, 5, 0, 13, 6, 0), new int[][] {{9, 5}, {10, 5}, {11, 5}, {12, 5}, {13, 6}, {14, 6}});
        laneIs("down by 1", lane(10, 6, 0, 13, 5, 0), new int[][] {{9, 6}, {10, 6}, {11, 5}, {12, 5}, {13, 5}});
        laneIs("level", lane(10, 6, 0, 13, 6, 0), new int[][] {{9, 6}, {11, 6}, {13, 6}, {14, 6}});
    }

    private static void neighbouringPoints() {
        laneIs("next to each other", lane(0, 0, 0, 1, 2000, 0, 2, 0, 0), new int[][] {{0, 0}, {1, 2000}, {2, 0},
            {3, 0}});
        laneIs("next to each other at the end", lane(3998, 7, 0, 3999, 9, 0), new int[][] {{0, 7}, {3997, 7},
            {3998, 7}, {3999, 9}});
        laneIs("set in another order", lane(20, 200, 0, 0, 0, 0, 10, 50, 0), new int[][] {{0, 0}, {5, 25}, {10, 50},
            {15, 125}, {20, 200}});
        laneIs("eight points", TrackEdgesTest::full, new int[][] {{0, 0}, {499, 99}, {500, 100}, {501, 100},
            {505, 101}, {3499, 699}, {3500, 700}, {3999, 700}});
    }

    // "the value of p if p is a hold"
    private static void holds() {
        laneIs("a hold, then a ramp, then a hold", lane(100, 0, 1, 200, 1000, 0, 300, 2000, 1), new int[][] {{99, 0},
            {100, 0}, {101, 0}, {199, 0}, {200, 1000}, {201, 1010}, {299, 1990}, {300, 2000}, {301, 2000}});
        laneIs("a ramp, then a hold", lane(100, 0, 0, 200, 1000, 1, 300, 2000, 0), new int[][] {{99, 0}, {101, 10},
            {199, 990}, {200, 1000}, {299, 1000}, {300, 2000}, {3999, 2000}});
    }

    private static void lanesOfTheirOwn() {
        ClipMixer x = new ClipMixer();
        for (int track = 0; track < 4; track++) {
            Check.same("the first point of lane " + track, x.setPoint(track, 100, 100 * track, true), 1);
        }
        for (int track = 0; track < 4; track++) {
            Check.same("lane " + track, x.automation(track, 100), 100 * track);
        }
    }

    private static void gainsOfTrack() {
        int[][] due = {{0, 0, 0}, {1, 0, -1}, {999, 0, -1}, {1000, 1, -1}, {1001, 1, -2}, {2000, 2, -2}};
        for (int[] d : due) {
            ClipMixer x = ones();
            x.setTrack(0, d[0], 0, false, false);
            Check.same("1 with the gain " + d[0], x.trackValue(0, 0), d[1]);
            Check.same("-1 with the gain " + d[0], x.trackValue(0, 3999), d[2]);
            x.setTrack(0, 1000, 0, false, false);
            x.setPoint(0, 7, d[0], false);
            Check.same("1 with the automation " + d[0], x.trackValue(0, 0), d[1]);
            Check.same("-1 with the automation " + d[0], x.trackValue(0, 3999), d[2]);
        }
        ClipMixer x = new ClipMixer();
        x.setSource(0, ClipMixer.SQUARE, 10000, 2, 4000);
        x.addClip(0, 0, 0, 0, 4000, 2000);
        x.setTrack(0, 2000, 0, false, false);
        x.setPoint(0, 0, 2000, true);
        Check.same("the greatest value", x.trackValue(0, 3998), 80000);
        Check.same("the least value", x.trackValue(0, 3999), -80000);
    }

    // "Returns the value of a track, whether it is audible or not."
    private static void valueWhetherAudible() {
        ClipMixer x = ones();
        x.setTrack(0, 1000, 100, true, false);
        Check.same("a muted track", x.trackValue(0, 0), 1);
        x.setTrack(0, 1000, -100, false, false);
        x.setTrack(1, 1000, 0, false, true);
        Check.same("beside a solo track", x.trackValue(0, 1), -1);
        x.setMaster(0);
        Check.same("the master gain is not its own", x.trackValue(0, 0), 1);
        Check.same("but it is not heard", x.mix(0, false), 0);
    }

    // "A track is audible if it is not muted and, if some track is solo, it is solo." All 256 cases.
    private static void soloAndMuted() {
        for (int flags = 0; flags < 256; flags++) {
            ClipMixer x = new ClipMixer();
            for (int track = 0; track < 4; track++) {
                x.setTrack(track, 1000, 0, (flags >> track & 1) == 1, (flags >> (4 + track) & 1) == 1);
            }
            boolean someSolo = flags >> 4 != 0;
            for (int track = 0; track < 4; track++) {
                boolean due = (flags >> track & 1) == 0 && (!someSolo || (flags >> (4 + track) & 1) == 1);
                Check.yes("isAudible(" + track + ") of case " + flags, x.isAudible(track) == due);
            }
        }
    }

    // "floor(value * (100 - (greater one of 0 and p)) / 100)", "floor(value * (100 + (smaller one of 0 and p)) / 100)"
    private static void panorama() {
        int[][] due = {{-100, 101, 0, -101, 0}, {-99, 101, 1, -101, -2}, {-50, 101, 50, -101, -51},
            {-1, 101, 99, -101, -100}, {0, 101, 101, -101, -101}, {1, 99, 101, -100, -101}, {50, 50, 101, -51, -101},
            {99, 1, 101, -2, -101}, {100, 0, 101, 0, -101}};
        for (int[] d : due) {
            ClipMixer x = new ClipMixer();
            x.setSource(0, ClipMixer.SQUARE, 101, 2, 4000);
            x.addClip(1, 0, 0, 0, 2, 1000);
            x.setTrack(1, 1000, d[0], false, false);
            Check.same("left of 101 at panorama " + d[0], x.mix(0, false), d[1]);
            Check.same("right of 101 at panorama " + d[0], x.mix(0, true), d[2]);
            Check.same("left of -101 at panorama " + d[0], x.mix(1, false), d[3]);
            Check.same("right of -101 at panorama " + d[0], x.mix(1, true), d[4]);
        }
        ClipMixer x = ones();
        x.addClip(1, 0, 0, 0, 4000, 1000);
        x.setTrack(0, 1000, 50, false, false);
        x.setTrack(1, 1000, 50, false, false);
        Check.same("each track is rounded by itself", x.mix(0, false), 0);
        Check.same("each track is rounded down by itself", x.mix(1, false), -2);
        Check.same("the other side is whole", x.mix(0, true), 2);
    }
}

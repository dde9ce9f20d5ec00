/** The boundaries that the document names for the values of clips: promise 13, gains, fades and crossfades. */
public final class ClipValueEdgesTest {
    public static void main(String[] args) {
        rangesOfClipValue();
        gainsRoundDown();
        fadeIns();
        fadeOuts();
        bothFades();
        gainBeforeFades();
        crossfadeOfOne();
        crossfadeOfThree();
        longestCrossfade();
        crossfadeRoundsDown();
        chainOfCrossfades();
        noCrossfade();
        Check.end();
    }

    // Source 0 is 1000, source 1 is 500, source 2 is -1000, source 3 is 1 and -1 by turns.
    private static ClipMixer sounds() {
        ClipMixer x = new ClipMixer();
        x.setSource(0, ClipMixer.CONSTANT, 1000, 1, 4000);
        x.setSource(1, ClipMixer.CONSTANT, 500, 1, 4000);
        x.setSource(2, ClipMixer.SAW, 1000, 1, 4000);
        x.setSource(3, ClipMixer.SQUARE, 1, 2, 4000);
        return x;
    }

    // "position: start to end - 1 of the clip"
    private static void rangesOfClipValue() {
        Edge.range("position of clip 0", Edge::rich, 0, 2999, Edge.ARGUMENT, (x, v) -> x.clipValue(0, v));
        Edge.range("position of clip 1", Edge::rich, 2900, 3899, Edge.ARGUMENT, (x, v) -> x.clipValue(1, v));
        Edge.range("position of clip 2", Edge::rich, 200, 319, Edge.ARGUMENT, (x, v) -> x.clipValue(2, v));
        Edge.Maker shortest = Edge.with(ClipValueEdgesTest::sounds, x -> x.addClip(0, 0, 3999, 0, 1, 1000));
        Edge.range("position of the shortest clip", shortest, 3999, 3999, Edge.ARGUMENT, (x, v) -> x.clipValue(0, v));
        Edge.Maker longest = Edge.with(ClipValueEdgesTest::sounds, x -> x.addClip(0, 0, 0, 0, 4000, 1000));
        Edge.range("position of the longest clip", longest, 0, 3999, Edge.ARGUMENT, (x, v) -> x.clipValue(0, v));
        Edge.refused("no clip and no position", Edge::rich, Edge.BOUNDS, x -> x.clipValue(4, -1));
    }

    // "applying a gain g to a value v gives floor(v * g / 1000)"
    private static void gainsRoundDown() {
        int[][] due = {{0, 0, 0}, {1, 0, -1}, {999, 0, -1}, {1000, 1, -1}, {1001, 1, -2}, {1999, 1, -2}, {2000, 2, -2}};
        for (int[] d : due) {
            ClipMixer x = sounds();
            x.addClip(0, 3, 0, 0, 2, d[0]);
            Check.same("1 with the gain " + d[0], x.clipValue(0, 0), d[1]);
            Check.same("-1 with the gain " + d[0], x.clipValue(0, 1), d[2]);
        }
        ClipMixer x = sounds();
        x.setSource(0, ClipMixer.SQUARE, 10000, 2, 4000);
        x.addClip(0, 0, 0, 0, 2, 2000);
        Check.same("the greatest value", x.clipValue(0, 0), 20000);
        Check.same("the least value", x.clipValue(0, 1), -20000);
    }

    private static void fade(String what, int length, int in, int out, int curve, int[]... due) {
        ClipMixer x = sounds();
        x.addClip(0, 0, 0, 0, length, 1000);
        x.addClip(1, 2, 0, 0, length, 1000);
        x.setFades(0, in, out, curve);
        x.setFades(1, in, out, curve);
        for (int[] d : due) {
            Check.same(what + " at " + d[0], x.clipValue(0, d[0]), d[1]);
            Check.same(what + ", negative, at " + d[0], x.clipValue(1, d[0]), -d[1]);
        }
    }

    // "if i is less than the fade-in length, the gain f is applied, where f = floor(1000 * i / (fade-in length))"
    private static void fadeIns() {
        int[][] all = {{0, 1000}, {9, 1000}};
        fade("no fade", 10, 0, 0, 0, all);
        fade("a square fade of none", 10, 0, 0, 1, all);
        fade("a fade-in of 1", 10, 1, 0, 0, new int[][] {{0, 0}, {1, 1000}, {9, 1000}});
        fade("a fade-in of 3", 10, 3, 0, 0, new int[][] {{0, 0}, {1, 333}, {2, 666}, {3, 1000}});
        fade("a square fade-in of 3", 10, 3, 0, 1, new int[][] {{0, 0}, {1, 110}, {2, 443}, {3, 1000}});
        fade("a fade-in of the length", 10, 10, 0, 0, new int[][] {{0, 0}, {1, 100}, {9, 900}});
        fade("a fade-in of the length + 1", 10, 11, 0, 0, new int[][] {{0, 0}, {1, 90}, {9, 818}});
        fade("the longest fade-in", 10, 4000, 0, 0, new int[][] {{0, 0}, {3, 0}, {4, 1}, {7, 1}, {8, 2}, {9, 2}});
        fade("the longest square fade-in", 10, 4000, 0, 1, new int[][] {{0, 0}, {9, 0}});
        fade("the longest of all", 4000, 4000, 0, 0, new int[][] {{0, 0}, {1, 0}, {2000, 500}, {3999, 999}});
        fade("the longest square one", 4000, 4000, 0, 1, new int[][] {{0, 0}, {2000, 250}, {3999, 998}});
        fade("a fade-in in a clip of 1", 1, 1, 0, 0, new int[][] {{0, 0}});
    }

    // "with j = length - 1 - i, if j is less than the fade-out length, the same with j and the fade-out length"
    private static void fadeOuts() {
        fade("a fade-out of 1", 10, 0, 1, 0, new int[][] {{0, 1000}, {8, 1000}, {9, 0}});
        fade("a fade-out of 3", 10, 0, 3, 0, new int[][] {{6, 1000}, {7, 666}, {8, 333}, {9, 0}});
        fade("a square fade-out of 3", 10, 0, 3, 1, new int[][] {{6, 1000}, {7, 443}, {8, 110}, {9, 0}});
        fade("a fade-out of the length", 10, 0, 10, 0, new int[][] {{0, 900}, {8, 100}, {9, 0}});
        fade("a fade-out of the length - 1", 10, 0, 9, 0, new int[][] {{0, 1000}, {1, 888}, {9, 0}});
        fade("the longest fade-out", 10, 0, 4000, 0, new int[][] {{0, 2}, {1, 2}, {2, 1}, {5, 1}, {6, 0}, {9, 0}});
        fade("the longest of all", 4000, 0, 4000, 0, new int[][] {{0, 999}, {1999, 500}, {3998, 0}, {3999, 0}});
        fade("the longest square one", 4000, 0, 4000, 1, new int[][] {{0, 998}, {1999, 250}, {3999, 0}});
        fade("a fade-out in a clip of 1", 1, 0, 1, 0, new int[][] {{0, 0}});
    }

    private static void bothFades() {
        fade("fades that meet", 10, 5, 5, 0, new int[][] {{0, 0}, {4, 800}, {5, 800}, {9, 0}});
        fade("fades that share one position", 9, 5, 5, 0, new int[][] {{3, 600}, {4, 640}, {5, 600}});
        fade("fades over all", 10, 10, 10, 0, new int[][] {{0, 0}, {1, 80}, {5, 200}, {8, 80}, {9, 0}});
        fade("square fades over all", 10, 10, 10, 1, new int[][] {{0, 0}, {5, 40}, {9, 0}});
        fade("both fades longer than the clip", 2, 4000, 4000, 0, new int[][] {{0, 0}, {1, 0}});
    }

    private static void gainBeforeFades() {
        int[][] due = {{1, 1500, 8, 10, 7, 1}, {-1, 1500, 3, 10, 7, -4}, {-1, 700, 4, 10, 10, -1},
            {-1, 700, 6, 10, 10, -1}, {-1, 333, 3, 7, 10, -2}};
        for (int[] d : due) {
            ClipMixer x = new ClipMixer();
            x.setSource(0, d[0] < 0 ? ClipMixer.SAW : ClipMixer.CONSTANT, 7, 1, 4000);
            x.addClip(0, 0, 0, 0, 10, d[1]);
            x.setFades(0, d[3], d[4], 0);
            Check.same("gain, fade-in and fade-out of " + d[0] * 7 + " at " + d[2], x.clipValue(0, d[2]), d[5]);
        }
    }

    private static ClipMixer crossed(int one, int firstEnd, int other, int start) {
        ClipMixer x = sounds();
        x.addClip(0, one, 0, 0, firstEnd, 1000);
        x.addClip(0, other, start, 0, firstEnd, 1000);
        return x;
    }

    private static void valuesAre(String what, ClipMixer x, int[]... due) {
        for (int[] d : due) {
            Check.same(what + " at " + d[0], x.trackValue(0, d[0]), d[1]);
        }
    }

    // "w = floor(1000 * (n - s) / (e - s))": from n = s to n = e - 1
    private static void crossfadeOfOne() {
        valuesAre("a crossfade of one", crossed(0, 100, 1, 99), new int[][] {{98, 1000}, {99, 1000}, {100, 500}});
        valuesAre("a crossfade of none", crossed(0, 100, 1, 100), new int[][] {{99, 1000}, {100, 500}, {199, 500}});
        valuesAre("a gap of one", crossed(0, 100, 1, 101), new int[][] {{99, 1000}, {100, 0}, {101, 500}, {201, 0}});
        valuesAre("a crossfade of two", crossed(0, 100, 1, 98), new int[][] {{98, 1000}, {99, 750}, {100, 500}});
    }

    private static void crossfadeOfThree() {
        ClipMixer x = crossed(0, 100, 1, 97);
        valuesAre("a crossfade of three", x, new int[][] {{96, 1000}, {97, 1000}, {98, 833}, {99, 667}, {100, 500}});
        Check.same("the raw value of the first one is without it", x.clipValue(0, 99), 1000);
        Check.same("the raw value of the second one is without it", x.clipValue(1, 97), 500);
        x.setFades(1, 3, 0, 0);
        valuesAre("a fade in a crossfade", x, new int[][] {{97, 1000}, {98, 722}, {99, 555}, {100, 500}});
        x.setFades(0, 0, 2, 0);
        valuesAre("two fades in a crossfade", x, new int[][] {{97, 1000}, {98, 388}, {99, 221}, {100, 500}});
    }

    private static void longestCrossfade() {
        ClipMixer x = crossed(0, 3999, 1, 1);
        valuesAre("the longest crossfade", x, new int[][] {{0, 1000}, {1, 1000}, {4, 1000}, {5, 999}, {2000, 750},
            {3998, 500}, {3999, 500}});
        Check.same("all of the timeline", x.length(), 4000);
    }

    private static void crossfadeRoundsDown() {
        ClipMixer x = new ClipMixer();
        x.setSource(0, ClipMixer.SAW, 1, 1, 4000);
        x.addClip(0, 0, 0, 0, 10, 1000);
        x.addClip(0, 0, 8, 0, 10, 1000);
        valuesAre("a crossfade of -1 and -1", x, new int[][] {{7, -1}, {8, -1}, {9, -2}, {10, -1}});
        x.setSource(0, ClipMixer.CONSTANT, 1, 1, 4000);
        valuesAre("a crossfade of 1 and 1", x, new int[][] {{7, 1}, {8, 1}, {9, 0}, {10, 1}});
        x.setSource(0, ClipMixer.CONSTANT, 2, 1, 4000);
        x.setTrack(0, 500, 0, false, false);
        valuesAre("the gain is applied to the sum", x, new int[][] {{8, 1}, {9, 1}, {10, 1}});
        x.setSource(0, ClipMixer.CONSTANT, 3, 1, 4000);
        x.setPoint(0, 0, 1500, true);
        valuesAre("the gain of the track, then the automation", x, new int[][] {{7, 1}, {10, 1}, {18, 0}});
    }

    private static void chainOfCrossfades() {
        ClipMixer x = sounds();
        x.addClip(0, 0, 0, 0, 100, 1000);
        x.addClip(0, 1, 50, 0, 100, 1000);
        x.addClip(0, 0, 100, 0, 100, 1000);
        valuesAre("two crossfades that touch", x, new int[][] {{49, 1000}, {50, 1000}, {99, 510}, {100, 500},
            {149, 990}, {150, 1000}, {199, 1000}, {200, 0}});
        x.removeClip(1);
        valuesAre("the clip between removed", x, new int[][] {{50, 1000}, {99, 1000}, {100, 1000}, {149, 1000}});
    }

    private static void noCrossfade() {
        ClipMixer x = sounds();
        x.addClip(0, 0, 0, 0, 100, 1000);
        x.addClip(1, 1, 0, 0, 100, 1000);
        Check.same("clips of two tracks", x.trackValue(0, 50), 1000);
        Check.same("clips of two tracks, the other one", x.trackValue(1, 50), 500);
        Check.same("their sum", x.mix(50, false), 1500);
        Check.same("a track without clips", x.trackValue(2, 50), 0);
        Check.same("before the clip", x.mix(0, false), 1500);
        Check.same("behind the clip", x.mix(100, false), 0);
    }
}

import java.math.BigInteger;

/** The boundaries that the document names for the mix, the playhead and the meters: promises 23 to 29 and "THE MIX". */
public final class MixEdgesTest {
    private static final int MIN = Integer.MIN_VALUE;
    private static final int MAX = Integer.MAX_VALUE;

    public static void main(String[] args) {
        ranges();
        rangesOfSetLoop();
        answersOfSetters();
        masterRoundsDown();
        masterIsAppliedToTheSum();
        limiter();
        limiterOnOneSide();
        limiterIsTheLast();
        clippedSamplesOfRows();
        playheadAtEndOfTimeline();
        playheadAtEndOfLoop();
        playheadOutsideOfLoop();
        loopsOfOnePosition();
        loopLeavesThePlayhead();
        rangesOfRender();
        greatestSamples();
        checkSumRunsOver();
        renderedInPieces();
        metersAtFirst();
        lookingIsNoRendering();
        clearMeters();
        Check.end();
    }

    // Four tracks that sound all the time, with these values; a negative one is a SAW of period 1.
    private static Edge.Maker sum(int... values) {
        return () -> {
            ClipMixer x = new ClipMixer();
            for (int k = 0; k < values.length; k++) {
                x.setSource(k, values[k] < 0 ? ClipMixer.SAW : ClipMixer.CONSTANT, Math.abs(values[k]), 1, 4000);
                x.addClip(k, k, 0, 0, 4000, 1000);
            }
            return x;
        };
    }

    // Position n sounds like n * 2 + 1, for the first positions.
    private static ClipMixer counting() {
        ClipMixer x = new ClipMixer();
        x.setSource(0, ClipMixer.SAW, 1000, 1000, 4000);
        x.setSource(1, ClipMixer.CONSTANT, 1001, 1, 4000);
        x.addClip(0, 0, 0, 0, 4000, 1000);
        x.addClip(1, 1, 0, 0, 4000, 1000);
        return x;
    }

    private static void metersAre(String what, ClipMixer x, long... due) {
        for (int k = 0; k < due.length; k++) {
            Check.same(what + ": meter(" + k + ")", x.meter(k), due[k]);
        }
    }

    private static long checkSum(long... samples) {
        BigInteger k = BigInteger.valueOf(7);
        for (long s : samples) {
            k = k.multiply(BigInteger.valueOf(31)).add(BigInteger.valueOf(s));
        }
        return k.longValue();
    }

    private static void ranges() {
        Edge.range("master gain", Edge::rich, 0, 2000, Edge.ARGUMENT, (x, v) -> x.setMaster(v));
        Edge.range("left position", Edge::rich, 0, 3999, Edge.ARGUMENT, (x, v) -> x.mix(v, false));
        Edge.range("right position", Edge::rich, 0, 3999, Edge.ARGUMENT, (x, v) -> x.mix(v, true));
        Edge.range("position of nothing", Edge::empty, 0, 3999, Edge.ARGUMENT, (x, v) -> x.mix(v, true));
        Edge.range("playhead", Edge::rich, 0, 3999, Edge.ARGUMENT, (x, v) -> x.seek(v));
        Edge.range("playhead of a new mixer", Edge::empty, 0, 3999, Edge.ARGUMENT, (x, v) -> x.seek(v));
        Edge.range("count", Edge::rich, 1, 1000, Edge.ARGUMENT, (x, v) -> x.render(v));
        Edge.range("count of a new mixer", Edge::empty, 1, 1000, Edge.ARGUMENT, (x, v) -> x.render(v));
        Edge.range("meter", Edge::rich, 0, 4, Edge.ARGUMENT, (x, v) -> x.meter(v));
        Edge.range("meter of a new mixer", Edge::empty, 0, 4, Edge.ARGUMENT, (x, v) -> x.meter(v));
    }

    // "from: 0 to to - 1", "to: 1 to 4000"
    private static void rangesOfSetLoop() {
        Edge.range("from", Edge::rich, 0, 99, Edge.ARGUMENT, (x, v) -> x.setLoop(v, 100));
        Edge.range("from of the shortest loop", Edge::rich, 0, 0, Edge.ARGUMENT, (x, v) -> x.setLoop(v, 1));
        Edge.range("from of the latest loop", Edge::rich, 0, 3999, Edge.ARGUMENT, (x, v) -> x.setLoop(v, 4000));
        Edge.range("to", Edge::rich, 1, 4000, Edge.ARGUMENT, (x, v) -> x.setLoop(0, v));
        Edge.range("to behind from", Edge::rich, 101, 4000, Edge.ARGUMENT, (x, v) -> x.setLoop(100, v));
        Edge.range("to behind the last position", Edge::rich, 4000, 4000, Edge.ARGUMENT, (x, v) -> x.setLoop(3999, v));
        int[][] wrong = {{0, 0}, {-1, 0}, {4000, 4001}, {4000, 4000}, {MIN, MIN}, {MAX, MIN}, {MAX, MAX}, {MIN, MAX},
            {-2, -1}, {20, 20}, {2500, 20}};
        for (int[] w : wrong) {
            Edge.refused("a loop from " + w[0] + " to " + w[1], Edge::rich, Edge.ARGUMENT,
                    x -> x.setLoop(w[0], w[1]));
        }
    }

    // "Returns the previous gain.", "Returns the previous from.", "Returns the previous position."
    private static void answersOfSetters() {
        ClipMixer x = new ClipMixer();
        Check.same("the master gain at first", x.setMaster(2000), 1000);
        Check.same("the greatest master gain", x.setMaster(0), 2000);
        Check.same("the least master gain", x.setMaster(1000), 0);
        Check.same("from at first", x.setLoop(3999, 4000), 0);
        Check.same("the greatest from", x.setLoop(0, 1), 3999);
        Check.same("the least from", x.setLoop(7, 9), 0);
        Check.same("the playhead at first", x.seek(3999), 0);
        Check.same("the last position", x.seek(0), 3999);
        Check.same("the first position", x.seek(1), 0);
    }

    private static void masterRoundsDown() {
        int[][] due = {{0, 0, 0}, {1, 0, -1}, {999, 0, -1}, {1000, 1, -1}, {1001, 1, -2}, {2000, 2, -2}};
        for (int[] d : due) {
            Edge.answers("1 with the master gain " + d[0], Edge.with(sum(1), x -> x.setMaster(d[0])), d[1],
                    x -> x.mix(3999, false));
            Edge.answers("-1 with the master gain " + d[0], Edge.with(sum(-1), x -> x.setMaster(d[0])), d[2],
                    x -> x.mix(0, true));
        }
    }

    private static void masterIsAppliedToTheSum() {
        Edge.answers("1 and 1", Edge.with(sum(1, 1), x -> x.setMaster(500)), 1, x -> x.mix(0, false));
        Edge.answers("-1 and -1", Edge.with(sum(-1, -1), x -> x.setMaster(500)), -1, x -> x.mix(0, true));
        Edge.answers("1 and -1", Edge.with(sum(1, -1), x -> x.setMaster(999)), 0, x -> x.mix(0, true));
        Edge.answers("four tracks", sum(1, 10, 100, 1000), 1111, x -> x.mix(0, false));
        Edge.answers("no track", Edge::empty, 0, x -> x.mix(0, false));
    }

    // "if it is greater than 32767 or less than -32767, it is limited to that, which counts as a clipped sample"
    private static void limiter() {
        int[][] due = {{2766, 32766, 0}, {2767, 32767, 0}, {2768, 32767, 2}, {2769, 32767, 2}, {10000, 32767, 2}};
        for (int[] d : due) {
            ClipMixer x = sum(10000, 10000, 10000, d[0]).make();
            Check.same("left of 30000 and " + d[0], x.mix(0, false), d[1]);
            Check.same("right of 30000 and " + d[0], x.mix(0, true), d[1]);
            x.render(1);
            metersAre("30000 and " + d[0], x, 1, d[1], d[1], d[2], checkSum(d[1], d[1]));
            x = sum(-10000, -10000, -10000, -d[0]).make();
            Check.same("left of -30000 and -" + d[0], x.mix(0, false), -d[1]);
            Check.same("right of -30000 and -" + d[0], x.mix(0, true), -d[1]);
            x.render(1);
            metersAre("-30000 and -" + d[0], x, 1, d[1], d[1], d[2], checkSum(-d[1], -d[1]));
        }
    }

    private static void limiterOnOneSide() {
        ClipMixer x = sum(10000, 10000, 10000, 2768).make();
        x.setTrack(3, 1000, 1, false, false);
        Check.same("just not limited on the left", x.mix(0, false), 32740);
        Check.same("limited on the right", x.mix(0, true), 32767);
        x.render(1);
        metersAre("only the right one is clipped", x, 1, 32740, 32767, 1, checkSum(32740, 32767));
        x.setTrack(3, 1000, -1, false, false);
        x.render(2);
        metersAre("then the left one, twice", x, 3, 32767, 32767, 3,
                checkSum(32740, 32767, 32767, 32740, 32767, 32740));
    }

    private static void limiterIsTheLast() {
        Edge.answers("above it without the master gain", Edge.with(sum(10000, 10000, 10000, 10000),
                x -> x.setMaster(819)), 32760, x -> x.mix(0, false));
        Edge.answers("one step more", Edge.with(sum(10000, 10000, 10000, 10000), x -> x.setMaster(820)), 32767,
                x -> x.mix(0, false));
        Edge.answers("one track is limited by nothing", Edge.with(sum(10000, -10000, 10000, -10000),
                x -> x.setTrack(0, 2000, 0, false, false)), 10000, x -> x.mix(0, false));
        Edge.Maker loudest = () -> {
            ClipMixer x = new ClipMixer();
            x.setSource(0, ClipMixer.SQUARE, 10000, 2, 4000);
            for (int t = 0; t < 4; t++) {
                x.addClip(t, 0, 0, 0, 4000, 2000);
                x.setTrack(t, 2000, 0, false, false);
                x.setPoint(t, 0, 2000, true);
            }
            x.setMaster(2000);
            return x;
        };
        Edge.answers("the loudest of all", loudest, 32767, x -> x.mix(3998, true));
        Edge.answers("the lowest of all", loudest, -32767, x -> x.mix(3999, false));
        Edge.answers("the loudest of all, without the master gain", Edge.with(loudest, x -> x.setMaster(0)), 0,
                x -> x.mix(0, true));
        Edge.answers("the loudest of all, very quiet", Edge.with(loudest, x -> x.setMaster(1)), 320,
                x -> x.mix(0, true));
    }

    private static void clippedSamplesOfRows() {
        ClipMixer x = sum(10000, 10000, 10000, 10000).make();
        x.render(1000);
        Check.same("2000 clipped samples", x.meter(3), 2000);
        x.render(1);
        Check.same("2002 clipped samples", x.meter(3), 2002);
        x.setMaster(0);
        x.render(1000);
        metersAre("silence leaves them", x, 2001, 32767, 32767, 2002);
        x.undo();
        x.undo();
        x.undo();
        metersAre("one of them was undone", x, 1000, 32767, 32767, 2000);
    }

    // "the playhead increases by 1; if it is to then, or 4000, it becomes from"
    private static void playheadAtEndOfTimeline() {
        Edge.Maker last = Edge.with(Edge::empty, x -> x.seek(3999));
        Edge.answers("to is 4000", last, 0, x -> x.render(1));
        Edge.answers("twice", last, 1, x -> x.render(2));
        Edge.answers("one before", Edge.with(Edge::empty, x -> x.seek(3998)), 3999, x -> x.render(1));
        Edge.answers("two before", Edge.with(Edge::empty, x -> x.seek(3998)), 0, x -> x.render(2));
        Edge.answers("the loop is passed by", Edge.with(last, x -> x.setLoop(5, 10)), 5, x -> x.render(1));
        Edge.answers("into the loop", Edge.with(last, x -> x.setLoop(5, 10)), 9, x -> x.render(5));
        Edge.answers("through the loop", Edge.with(last, x -> x.setLoop(5, 10)), 5, x -> x.render(6));
        Edge.answers("all of the timeline", Edge::empty, 0, x -> {
            x.render(1000);
            x.render(1000);
            x.render(1000);
            return x.render(1000);
        });
    }

    private static void playheadAtEndOfLoop() {
        int[][] due = {{9, 1, 5}, {8, 1, 9}, {8, 2, 5}, {5, 1, 6}, {5, 4, 9}, {5, 5, 5}, {5, 6, 6}, {5, 1000, 5},
            {6, 999, 5}, {5, 999, 9}, {9, 1000, 9}};
        for (int[] d : due) {
            Edge.answers("from " + d[0] + " on by " + d[1], Edge.with(Edge::empty, x -> {
                x.setLoop(5, 10);
                x.seek(d[0]);
            }), d[2], x -> x.render(d[1]));
        }
        ClipMixer x = counting();
        x.setLoop(5, 7);
        x.seek(4);
        x.render(5);
        metersAre("the positions 4, 5, 6, 5 and 6", x, 5, 13, 13, 0,
                checkSum(9, 9, 11, 11, 13, 13, 11, 11, 13, 13));
        Check.same("the next position", x.seek(0), 5);
    }

    private static void playheadOutsideOfLoop() {
        int[][] due = {{0, 4, 4}, {0, 5, 5}, {0, 9, 9}, {0, 10, 5}, {4, 1, 5}, {10, 1, 11}, {11, 1, 12},
            {3998, 1, 3999}, {3999, 1, 5}, {3010, 990, 5}, {3010, 989, 3999}};
        for (int[] d : due) {
            Edge.answers("outside from " + d[0] + " on by " + d[1], Edge.with(Edge::empty, x -> {
                x.setLoop(5, 10);
                x.seek(d[0]);
            }), d[2], x -> x.render(d[1]));
        }
    }

    private static void loopsOfOnePosition() {
        Edge.answers("the first position", Edge.with(Edge::empty, x -> x.setLoop(0, 1)), 0, x -> x.render(1000));
        Edge.answers("the last position", Edge.with(Edge::empty, x -> {
            x.setLoop(3999, 4000);
            x.seek(3999);
        }), 3999, x -> x.render(999));
        ClipMixer x = counting();
        x.setLoop(3, 4);
        Check.same("up to it and in it", x.render(6), 3);
        metersAre("the positions 0, 1, 2, 3, 3 and 3", x, 6, 7, 7, 0,
                checkSum(1, 1, 3, 3, 5, 5, 7, 7, 7, 7, 7, 7));
    }

    private static void loopLeavesThePlayhead() {
        ClipMixer x = new ClipMixer();
        x.seek(100);
        x.setLoop(5, 10);
        Check.same("behind a new loop", x.seek(10), 100);
        x.setLoop(0, 10);
        Check.same("at the end of a new loop", x.render(1), 11);
        x.setLoop(0, 11);
        Check.same("it is not to, it was", x.render(1), 12);
        x.setLoop(0, 13);
        Check.same("it becomes to", x.render(1), 0);
    }

    private static void rangesOfRender() {
        for (int count : new int[] {1, 1000}) {
            ClipMixer x = new ClipMixer();
            Check.same("the playhead after " + count, x.render(count), count);
            Check.same("the rendered positions after " + count, x.meter(0), count);
            Check.same("undone", x.undo(), 0);
            Check.same("none rendered", x.meter(0), 0);
            Check.same("the playhead of before", x.seek(0), 0);
        }
    }

    private static void greatestSamples() {
        ClipMixer x = new ClipMixer();
        x.setSource(0, ClipMixer.SQUARE, 5, 2, 4000);
        x.addClip(0, 0, 0, 0, 2, 1000);
        x.addClip(0, 0, 2, 0, 2, 1200);
        x.setTrack(0, 1000, 20, false, false);
        x.render(1);
        metersAre("5 on the right, 4 on the left", x, 1, 4, 5, 0);
        x.render(1);
        metersAre("-5 on the right, -4 on the left", x, 2, 4, 5, 0);
        x.render(1);
        metersAre("6 on the right, 4 on the left", x, 3, 4, 6, 0);
        x.render(1);
        metersAre("-6 on the right, -5 on the left", x, 4, 5, 6, 0);
        x.render(1);
        metersAre("silence", x, 5, 5, 6, 0, checkSum(4, 5, -4, -5, 4, 6, -5, -6, 0, 0));
        ClipMixer y = sum(-10000, -10000, -10000, -2767).make();
        y.render(1);
        metersAre("negative from the beginning", y, 1, 32767, 32767, 0);
    }

    // "becomes 31 * k + (left sample), and then 31 * k + (right sample) (long arithmetic, overflow wraps)"
    private static void checkSumRunsOver() {
        for (int count : new int[] {1, 5, 6, 7, 12, 13, 100, 1000}) {
            for (int sign = -1; sign <= 1; sign++) {
                ClipMixer x = sum(sign * 10000, sign * 10000, sign * 10000, sign * 9000).make();
                x.setTrack(3, 1000, -100, false, false);
                x.render(count);
                long[] samples = new long[2 * count];
                for (int k = 0; k < count; k++) {
                    samples[2 * k] = sign * 32767;
                    samples[2 * k + 1] = sign * 30000;
                }
                Check.same("the check sum of " + count + ", " + sign, x.meter(4), checkSum(samples));
            }
        }
    }

    private static void renderedInPieces() {
        ClipMixer whole = Edge.rich();
        whole.seek(1990);
        whole.render(1000);
        for (int piece : new int[] {3, 10, 499, 500, 501, 509, 510, 511, 999}) {
            ClipMixer x = Edge.rich();
            x.seek(1990);
            for (int n = 0; n < 1000; n += piece) {
                x.render(Math.min(piece, 1000 - n));
            }
            for (int what = 0; what < 5; what++) {
                Check.same("meter(" + what + ") in pieces of " + piece, x.meter(what), whole.meter(what));
            }
        }
        Check.same("the loop was left and entered again", whole.seek(0), 20 + 1990 + 1000 - 2500);
    }

    private static void metersAtFirst() {
        metersAre("a new mixer", new ClipMixer(), 0, 0, 0, 0, 7);
        ClipMixer x = new ClipMixer();
        x.render(1);
        metersAre("one silent position", x, 1, 0, 0, 0, 7 * 31 * 31);
    }

    private static void lookingIsNoRendering() {
        ClipMixer x = sum(10000, 10000, 10000, 10000).make();
        x.mix(0, false);
        x.digest();
        x.trackValue(0, 0);
        x.seek(5);
        metersAre("nothing is rendered", x, 0, 0, 0, 0, 7);
    }

    // "Makes the meters those of the beginning. ... Returns the number of rendered positions before."
    private static void clearMeters() {
        ClipMixer x = sum(10000, 10000, 10000, 10000).make();
        Check.same("nothing rendered before", x.clearMeters(), 0);
        for (int k = 0; k < 5; k++) {
            x.render(1000);
        }
        Check.same("the playhead is not a meter", x.seek(17), 1000);
        Check.same("more than the timeline", x.clearMeters(), 5000);
        metersAre("those of the beginning", x, 0, 0, 0, 0, 7);
        Check.same("cleared twice", x.clearMeters(), 0);
        x.undo();
        x.undo();
        metersAre("brought back by undo()", x, 5000, 32767, 32767, 10000);
        Check.same("the playhead stays", x.seek(0), 17);
    }
}

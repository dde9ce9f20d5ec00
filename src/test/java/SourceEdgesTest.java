/** The boundaries that the document names for sources: promises 2 and 3, and "SOURCES". */
public final class SourceEdgesTest {
    public static void main(String[] args) {
        sourcesAtFirst();
        rangesOfSetSource();
        setSourceAnswersThePreviousLength();
        firstExceptionOfSetSource();
        rangesOfSample();
        sampleFollowsTheLength();
        square();
        saw();
        noise();
        behindTheSource();
        Check.end();
    }

    private static ClipMixer with(int shape, int amplitude, int period, int length) {
        ClipMixer x = new ClipMixer();
        x.setSource(0, shape, amplitude, period, length);
        return x;
    }

    private static int sampleOf(int shape, int amplitude, int period, int index) {
        return with(shape, amplitude, period, 4000).sample(0, index);
    }

    // "There are six sources", "the shape is CONSTANT, A is 0, P is 1 and the length is 4000"
    private static void sourcesAtFirst() {
        ClipMixer x = new ClipMixer();
        for (int s = 0; s < 6; s++) {
            int source = s;
            Check.same("the first sample of source " + s, x.sample(s, 0), 0);
            Check.same("the last sample of source " + s, x.sample(s, 3999), 0);
            Edge.answers("the length of source " + s, Edge::empty, 4000, m -> m.setSource(source, 1, 1, 1, 1));
            Edge.refused("sample 4000 of source " + s, Edge::empty, Edge.BOUNDS, m -> m.sample(source, 4000));
        }
    }

    // "source: 0 to 5", "shape: 0 to 3", "amplitude: 0 to 10000", "period: 1 to 1000", "length: 1 to 4000"
    private static void rangesOfSetSource() {
        Edge.range("source", Edge::rich, 0, 5, Edge.BOUNDS, (x, v) -> x.setSource(v, 1, 5, 5, 5));
        Edge.range("shape", Edge::rich, 0, 3, Edge.ARGUMENT, (x, v) -> x.setSource(0, v, 5, 5, 5));
        Edge.range("amplitude", Edge::rich, 0, 10000, Edge.ARGUMENT, (x, v) -> x.setSource(0, 1, v, 5, 5));
        Edge.range("period", Edge::rich, 1, 1000, Edge.ARGUMENT, (x, v) -> x.setSource(0, 1, 5, v, 5));
        Edge.range("length", Edge::rich, 1, 4000, Edge.ARGUMENT, (x, v) -> x.setSource(0, 1, 5, 5, v));
        for (int shape = 0; shape < 4; shape++) {
            int each = shape;
            Edge.range("amplitude of shape " + shape, Edge::empty, 0, 10000, Edge.ARGUMENT,
                    (x, v) -> x.setSource(5, each, v, 1, 1));
        }
    }

    // "Returns the previous length."
    private static void setSourceAnswersThePreviousLength() {
        ClipMixer x = new ClipMixer();
        Check.same("4000 at first", x.setSource(5, 3, 10000, 1000, 1), 4000);
        Check.same("the least length", x.setSource(5, 0, 0, 1, 4000), 1);
        Check.same("the greatest length", x.setSource(5, 0, 0, 1, 3999), 4000);
        Check.same("a source of its own", x.setSource(4, 0, 0, 1, 1), 4000);
        x.undo();
        x.undo();
        Check.same("brought back by undo()", x.setSource(5, 0, 0, 1, 7), 4000);
    }

    private static void firstExceptionOfSetSource() {
        for (int source : new int[] {-1, 6, Integer.MAX_VALUE}) {
            Edge.refused("no source and no shape", Edge::rich, Edge.BOUNDS, x -> x.setSource(source, 4, 5, 5, 5));
            Edge.refused("no source, no amplitude", Edge::rich, Edge.BOUNDS, x -> x.setSource(source, 0, -1, 5, 5));
            Edge.refused("no source and no period", Edge::rich, Edge.BOUNDS, x -> x.setSource(source, 0, 5, 0, 5));
            Edge.refused("no source and no length", Edge::rich, Edge.BOUNDS, x -> x.setSource(source, 0, 5, 5, 0));
        }
    }

    // "index: 0 to the length of the source - 1"
    private static void rangesOfSample() {
        Edge.range("source", Edge::rich, 0, 5, Edge.BOUNDS, (x, v) -> x.sample(v, 0));
        Edge.range("index of source 0", Edge::rich, 0, 3999, Edge.BOUNDS, (x, v) -> x.sample(0, v));
        Edge.range("index of source 1", Edge::rich, 0, 2999, Edge.BOUNDS, (x, v) -> x.sample(1, v));
        Edge.range("index of source 2", Edge::rich, 0, 3998, Edge.BOUNDS, (x, v) -> x.sample(2, v));
        Edge.range("index of a source of one sample", () -> with(0, 5, 1, 1), 0, 0, Edge.BOUNDS,
                (x, v) -> x.sample(0, v));
    }

    private static void sampleFollowsTheLength() {
        ClipMixer x = with(ClipMixer.CONSTANT, 7, 1, 4000);
        x.setSource(0, ClipMixer.CONSTANT, 7, 1, 10);
        Check.same("the last sample of a source made shorter", x.sample(0, 9), 7);
        Check.fails("the next one", x, Edge.BOUNDS, () -> x.sample(0, 10));
        x.undo();
        Check.same("the last sample of a source made longer", x.sample(0, 3999), 7);
    }

    // "A if 2 * q is less than P, otherwise -A", "q = i modulo P"
    private static void square() {
        int[][] due = {{1, 0, 9}, {1, 3999, 9}, {2, 0, 9}, {2, 1, -9}, {2, 2, 9}, {3, 1, 9}, {3, 2, -9}, {3, 3, 9},
            {4, 1, 9}, {4, 2, -9}, {4, 3, -9}, {4, 4, 9}, {999, 499, 9}, {999, 500, -9}, {999, 998, -9}, {999, 999, 9},
            {1000, 499, 9}, {1000, 500, -9}, {1000, 999, -9}, {1000, 1000, 9}, {1000, 3499, 9}, {1000, 3500, -9}};
        for (int[] d : due) {
            Check.same("SQUARE of period " + d[0] + " at " + d[1], sampleOf(ClipMixer.SQUARE, 9, d[0], d[1]), d[2]);
        }
        Check.same("SQUARE, the greatest amplitude", sampleOf(ClipMixer.SQUARE, 10000, 2, 3999), -10000);
        Check.same("SQUARE, the least amplitude", sampleOf(ClipMixer.SQUARE, 0, 2, 3999), 0);
        Check.same("CONSTANT, the greatest amplitude", sampleOf(ClipMixer.CONSTANT, 10000, 1000, 3999), 10000);
        Check.same("CONSTANT, the least amplitude", sampleOf(ClipMixer.CONSTANT, 0, 1, 0), 0);
    }

    // "floor(2 * A * q / P) - A"
    private static void saw() {
        int[][] due = {{9, 1, 0, -9}, {9, 1, 3999, -9}, {7, 3, 0, -7}, {7, 3, 1, -3}, {7, 3, 2, 2}, {7, 3, 3, -7},
            {10000, 1000, 0, -10000}, {10000, 1000, 999, 9980}, {10000, 1000, 1000, -10000}, {10000, 1000, 3999, 9980},
            {10000, 999, 998, 9979}, {1, 1000, 499, -1}, {1, 1000, 500, 0}, {1, 1000, 999, 0}, {0, 1000, 999, 0}};
        for (int[] d : due) {
            Check.same("SAW of " + d[0] + ", " + d[1] + " at " + d[2], sampleOf(ClipMixer.SAW, d[0], d[1], d[2]),
                    d[3]);
        }
    }

    // "floor(x / 65536) modulo (2 * A + 1), minus A, where x is (1103515245 * (i + 1) + 12345 * P) modulo 2147483648"
    private static void noise() {
        int[][] due = {{10000, 1, 0, 6838}, {10000, 1, 1, -9092}, {10000, 1, 2, 7747}, {10000, 1000, 0, 7026},
            {10000, 1000, 3999, 5173}, {300, 7, 3999, 262}, {0, 5, 9, 0}, {0, 1, 3999, 0}, {1, 1, 3, 1}, {1, 1, 4, 0},
            {1, 1, 8, -1}};
        for (int[] d : due) {
            Check.same("NOISE of " + d[0] + ", " + d[1] + " at " + d[2],
                    sampleOf(ClipMixer.NOISE, d[0], d[1], d[2]), d[3]);
        }
        Check.same("the last one below the modulus 20001", sampleOf(ClipMixer.NOISE, 10000, 45, 3433), 10000);
        Check.same("the first one beyond it", sampleOf(ClipMixer.NOISE, 10000, 48, 3433), -10000);
        Check.same("x just at a multiple of 65536", sampleOf(ClipMixer.NOISE, 10000, 17, 3762), -7995);
        Check.same("x at another one", sampleOf(ClipMixer.NOISE, 10000, 944, 783), -1327);
        Check.same("x just below a multiple of 65536", sampleOf(ClipMixer.NOISE, 10000, 46, 36), -9567);
        Check.same("x below another one", sampleOf(ClipMixer.NOISE, 10000, 967, 3439), -7102);
        Check.same("the last x below 2147483648", sampleOf(ClipMixer.NOISE, 10000, 91, 2848), 2766);
        Check.same("the first x beyond it", sampleOf(ClipMixer.NOISE, 10000, 92, 2848), -10000);
    }

    // "0 if the source has no such sample": from the length of the source on
    private static void behindTheSource() {
        ClipMixer x = with(ClipMixer.CONSTANT, 1000, 1, 10);
        x.addClip(0, 0, 100, 5, 20, 1000);
        Check.same("the last sample", x.clipValue(0, 104), 1000);
        Check.same("behind it", x.clipValue(0, 105), 0);
        x.setSource(0, ClipMixer.CONSTANT, 1000, 1, 5);
        Check.same("an offset that is the length", x.clipValue(0, 100), 0);
        x.setSource(0, ClipMixer.CONSTANT, 1000, 1, 6);
        Check.same("an offset before the length", x.clipValue(0, 100), 1000);
        Check.same("no sample after it", x.clipValue(0, 101), 0);
        ClipMixer y = with(ClipMixer.CONSTANT, 1000, 1, 4000);
        y.addClip(0, 0, 0, 3999, 4000, 1000);
        Check.same("the last sample of the longest source", y.clipValue(0, 0), 1000);
        Check.same("behind the longest source", y.clipValue(0, 1), 0);
        Check.same("far behind the longest source", y.clipValue(0, 3999), 0);
    }
}

public final class ClipMixer {
    public static final int NONE = -1;
    public static final int CONSTANT = 0, SQUARE = 1, SAW = 2, NOISE = 3;
    public static final int LINEAR = 0, SQUARE_CURVE = 1;

    private static final int SOURCES = 6;
    private static final int TRACKS = 4;
    private static final int MAX_CLIPS = 12;
    private static final int MAX_POINTS = 8;
    private static final int MAX_SAVED = 4;
    private static final int TIMELINE = 4000;
    private static final int LAST_POSITION = TIMELINE - 1;
    private static final int MAX_OFFSET = 3999;
    private static final int MAX_FADE = 4000;
    private static final int UNITY = 1000;
    private static final int MAX_GAIN = 2000;
    private static final int MAX_AMPLITUDE = 10000;
    private static final int MAX_PERIOD = 1000;
    private static final int MAX_THRESHOLD = 100000;
    private static final int WIDEST_PANORAMA = 100;
    private static final int MAX_RENDER = 1000;
    private static final int LIMIT = 32767;
    private static final int WINDOW = 40;
    private static final int WINDOWS = TIMELINE / WINDOW;
    private static final int LAST_PROPERTY = 8;
    private static final int LAST_METER = 4;
    private static final long FIRST_CHECK_SUM = 7;
    private static final long FIRST_HASH = 18363;
    private static final int HASHED_STEP = 50;

    // The states go round between these places: none is made after the constructor.
    private State now = new State();
    private State spare = new State();
    private final State[] saved = new State[MAX_SAVED];
    private int savedCount;
    private final DuckCurve[] curves = new DuckCurve[TRACKS];
    private final Frame frame = new Frame();

    public ClipMixer() {
        for (int k = 0; k < saved.length; k++) {
            saved[k] = new State();
        }
        for (int t = 0; t < curves.length; t++) {
            curves[t] = new DuckCurve();
        }
    }

    // ---- sources and clips

    public int setSource(int source, int shape, int amplitude, int period, int length)
            throws IndexOutOfBoundsException, IllegalArgumentException {
        checkSource(source);
        if (isOutside(shape, CONSTANT, NOISE) || isOutside(amplitude, 0, MAX_AMPLITUDE)
                || isOutside(period, 1, MAX_PERIOD) || isOutside(length, 1, TIMELINE)) {
            throw new IllegalArgumentException("shape, amplitude, period or length is out of range");
        }
        int before = now.sources[source].size;
        draft().sources[source].define(shape, amplitude, period, length);
        keepSound();
        return before;
    }

    public int sample(int source, int index) throws IndexOutOfBoundsException {
        checkSource(source);
        if (isOutside(index, 0, now.sources[source].size - 1)) {
            throw new IndexOutOfBoundsException("there is no such sample");
        }
        return now.sources[source].valueAt(index);
    }

    public int addClip(int track, int source, int start, int offset, int length, int gain)
            throws IllegalArgumentException, IllegalStateException, UnsupportedOperationException {
        if (isOutside(track, 0, TRACKS - 1) || isOutside(source, 0, SOURCES - 1)
                || isOutside(start, 0, LAST_POSITION) || isOutside(offset, 0, MAX_OFFSET)
                || isOutside(length, 1, TIMELINE - start) || isOutside(gain, 0, MAX_GAIN)) {
            throw new IllegalArgumentException("an argument is out of range");
        }
        checkRoomForClip();
        State next = draft();
        int number = next.insert(track, source, start, offset, length, gain);
        checkLawful(next);
        keepSound();
        return number;
    }

    public int setFades(int clip, int fadeIn, int fadeOut, int curve)
            throws IndexOutOfBoundsException, IllegalArgumentException {
        checkClip(clip);
        if (isOutside(fadeIn, 0, MAX_FADE) || isOutside(fadeOut, 0, MAX_FADE)
                || isOutside(curve, LINEAR, SQUARE_CURVE)) {
            throw new IllegalArgumentException("a fade length or the curve is out of range");
        }
        int before = now.clipRow[clip].fadeIn;
        draft().clipRow[clip].fade(fadeIn, fadeOut, curve);
        keepSound();
        return before;
    }

    public int moveClip(int clip, int start)
            throws IndexOutOfBoundsException, IllegalArgumentException, UnsupportedOperationException {
        checkClip(clip);
        if (isOutside(start, 0, TIMELINE - now.clipRow[clip].size)) {
            throw new IllegalArgumentException("start is out of range");
        }
        State next = draft();
        next.clipRow[clip].start = start;
        int number = next.settle(clip);
        checkLawful(next);
        keepSound();
        return number;
    }

    public int trimClip(int clip, int front, int back)
            throws IndexOutOfBoundsException, IllegalArgumentException, UnsupportedOperationException {
        checkClip(clip);
        Clip old = now.clipRow[clip];
        if (isOutside(front, 0, old.size - 1) || isOutside(back, 0, old.size - 1 - front)
                || old.offset + front > MAX_OFFSET) {
            throw new IllegalArgumentException("front or back is out of range, or the offset would be");
        }
        State next = draft();
        next.clipRow[clip].trim(front, back);
        checkLawful(next);
        keepSound();
        return now.clipRow[clip].size;
    }

    public int splitClip(int clip, int position) throws IndexOutOfBoundsException,
            IllegalArgumentException, IllegalStateException, UnsupportedOperationException {
        checkClip(clip);
        Clip old = now.clipRow[clip];
        if (isOutside(position, old.start + 1, old.end() - 1)
                || old.offset + position - old.start > MAX_OFFSET) {
            throw new IllegalArgumentException("position is out of range, or the offset would be");
        }
        checkRoomForClip();
        State next = draft();
        int number = next.cutInTwo(clip, position);
        checkLawful(next);
        keepSound();
        return number;
    }

    public int removeClip(int clip) throws IndexOutOfBoundsException {
        checkClip(clip);
        draft().drop(clip);
        keepSound();
        return now.clipCount;
    }

    public int deleteTime(int track, int from, int to)
            throws IndexOutOfBoundsException, IllegalArgumentException, UnsupportedOperationException {
        checkTrack(track);
        if (isOutside(to, 1, TIMELINE) || isOutside(from, 0, to - 1)) {
            throw new IllegalArgumentException("from or to is out of range");
        }
        State next = draft();
        int removed = next.cutOut(track, from, to);
        if (!next.offsetsFit()) {
            throw new IllegalArgumentException("the offset of a clip would be out of range");
        }
        checkLawful(next);
        keepSound();
        return removed;
    }

    public int clips() {
        return now.clipCount;
    }

    public int clip(int clip, int what) throws IndexOutOfBoundsException, IllegalArgumentException {
        checkClip(clip);
        if (isOutside(what, 0, LAST_PROPERTY)) {
            throw new IllegalArgumentException("there is no such property");
        }
        return now.clipRow[clip].property(what);
    }

    public int clipValue(int clip, int position)
            throws IndexOutOfBoundsException, IllegalArgumentException {
        checkClip(clip);
        if (!now.clipRow[clip].covers(position)) {
            throw new IllegalArgumentException("the clip does not cover the position");
        }
        return now.rawValue(now.clipRow[clip], position);
    }

    // ---- tracks

    public int setTrack(int track, int gain, int panorama, boolean muted, boolean solo)
            throws IndexOutOfBoundsException, IllegalArgumentException {
        checkTrack(track);
        if (isOutside(gain, 0, MAX_GAIN) || isOutside(panorama, -WIDEST_PANORAMA, WIDEST_PANORAMA)) {
            throw new IllegalArgumentException("gain or panorama is out of range");
        }
        int before = now.tracks[track].gain;
        Track changed = draft().tracks[track];
        changed.gain = gain;
        changed.panorama = panorama;
        changed.muted = muted;
        changed.solo = solo;
        keepSound();
        return before;
    }

    public int setPoint(int track, int position, int value, boolean hold)
            throws IndexOutOfBoundsException, IllegalArgumentException, IllegalStateException {
        checkTrack(track);
        checkPosition(position);
        if (isOutside(value, 0, MAX_GAIN)) {
            throw new IllegalArgumentException("value is out of range");
        }
        Track old = now.tracks[track];
        if (old.pointCount >= MAX_POINTS && old.pointAt(position) == NONE) {
            throw new IllegalStateException("there would be too many points");
        }
        draft().tracks[track].putPoint(position, value, hold);
        keepSound();
        return now.tracks[track].pointCount;
    }

    public int removePoint(int track, int position)
            throws IndexOutOfBoundsException, IllegalArgumentException {
        checkTrack(track);
        int point = now.tracks[track].pointAt(position);
        if (point == NONE) {
            throw new IllegalArgumentException("there is no point at this position");
        }
        draft().tracks[track].dropPoint(point);
        keepSound();
        return now.tracks[track].pointCount;
    }

    public int automation(int track, int position)
            throws IndexOutOfBoundsException, IllegalArgumentException {
        checkTrack(track);
        checkPosition(position);
        return now.tracks[track].laneGain(position);
    }

    public int duck(int track, int key, int threshold, int floorGain, int attack, int release)
            throws IndexOutOfBoundsException, IllegalArgumentException, IllegalStateException {
        checkTrack(track);
        if (isOutside(key, 0, TRACKS - 1) || isOutside(threshold, 0, MAX_THRESHOLD)
                || isOutside(floorGain, 0, UNITY) || isOutside(attack, 1, UNITY)
                || isOutside(release, 1, UNITY)) {
            throw new IllegalArgumentException("an argument is out of range");
        }
        if (key == track || now.tracks[key].key != NONE || now.isKey(track)) {
            throw new IllegalStateException("the track can't be ducked by this key");
        }
        int before = now.tracks[track].key;
        Track changed = draft().tracks[track];
        changed.key = key;
        changed.threshold = threshold;
        changed.floorGain = floorGain;
        changed.attack = attack;
        changed.release = release;
        keepSound();
        return before;
    }

    public int endDuck(int track) throws IndexOutOfBoundsException {
        checkTrack(track);
        int before = now.tracks[track].key;
        draft().tracks[track].key = NONE;
        keepSound();
        return before;
    }

    public int duckGain(int track, int position)
            throws IndexOutOfBoundsException, IllegalArgumentException {
        checkTrack(track);
        checkPosition(position);
        learnDucking(track, position);
        return duckGainAt(track, position);
    }

    public int trackValue(int track, int position)
            throws IndexOutOfBoundsException, IllegalArgumentException {
        checkTrack(track);
        checkPosition(position);
        learnDucking(track, position);
        return valueOfTrack(track, position);
    }

    public boolean isAudible(int track) throws IndexOutOfBoundsException {
        checkTrack(track);
        return now.tracks[track].isHeard(now.hasSolo());
    }

    // ---- the mix

    public int setMaster(int gain) throws IllegalArgumentException {
        if (isOutside(gain, 0, MAX_GAIN)) {
            throw new IllegalArgumentException("gain is out of range");
        }
        int before = now.master;
        draft().master = gain;
        keepDraft();
        return before;
    }

    public int mix(int position, boolean right) throws IllegalArgumentException {
        checkPosition(position);
        mixInto(frame, position);
        return right ? frame.right : frame.left;
    }

    public int setLoop(int from, int to) throws IllegalArgumentException {
        if (isOutside(to, 1, TIMELINE) || isOutside(from, 0, to - 1)) {
            throw new IllegalArgumentException("from or to is out of range");
        }
        int before = now.loopFrom;
        State next = draft();
        next.loopFrom = from;
        next.loopTo = to;
        keepDraft();
        return before;
    }

    public int seek(int position) throws IllegalArgumentException {
        checkPosition(position);
        int before = now.playhead;
        draft().playhead = position;
        keepDraft();
        return before;
    }

    public int render(int count) throws IllegalArgumentException {
        if (isOutside(count, 1, MAX_RENDER)) {
            throw new IllegalArgumentException("count is out of range");
        }
        State next = draft();
        for (int k = 0; k < count; k++) {
            mixInto(frame, next.playhead);
            next.meters.take(frame);
            next.advance();
        }
        keepDraft();
        return now.playhead;
    }

    public long meter(int what) throws IllegalArgumentException {
        if (isOutside(what, 0, LAST_METER)) {
            throw new IllegalArgumentException("there is no such meter");
        }
        return now.meters.reading(what);
    }

    public long clearMeters() {
        long before = now.meters.rendered;
        draft().meters.clear();
        keepDraft();
        return before;
    }

    public int length() {
        int greatest = 0;
        for (int k = 0; k < now.clipCount; k++) {
            greatest = Math.max(greatest, now.clipRow[k].end());
        }
        return greatest;
    }

    // ---- undo and checksum

    public int undo() throws IllegalStateException {
        if (savedCount <= 0) {
            throw new IllegalStateException("there is nothing to undo");
        }
        savedCount--;
        State undone = now;
        now = saved[savedCount];
        saved[savedCount] = undone;
        forgetDucking();
        return savedCount;
    }

    public long digest() {
        long h = hashed(FIRST_HASH, savedCount);
        h = now.hashTransport(h);
        h = now.hashClips(now.hashSources(h));
        for (int t = 0; t < TRACKS; t++) {
            h = now.tracks[t].hashTrack(h);
        }
        for (int n = 0; n < TIMELINE; n += HASHED_STEP) {
            mixInto(frame, n);
            h = hashed(hashed(h, frame.left), frame.right);
        }
        return h;
    }

    // ---- tests of arguments

    private static boolean isOutside(int value, int least, int greatest) {
        return value < least || value > greatest;
    }

    private static void checkSource(int source) {
        if (isOutside(source, 0, SOURCES - 1)) {
            throw new IndexOutOfBoundsException("there is no such source");
        }
    }

    private static void checkTrack(int track) {
        if (isOutside(track, 0, TRACKS - 1)) {
            throw new IndexOutOfBoundsException("there is no such track");
        }
    }

    private static void checkPosition(int position) {
        if (isOutside(position, 0, LAST_POSITION)) {
            throw new IllegalArgumentException("position is out of range");
        }
    }

    private void checkClip(int clip) {
        if (isOutside(clip, 0, now.clipCount - 1)) {
            throw new IndexOutOfBoundsException("there is no such clip");
        }
    }

    private void checkRoomForClip() {
        if (now.clipCount >= MAX_CLIPS) {
            throw new IllegalStateException("there is no room for another clip");
        }
    }

    private static void checkLawful(State state) {
        if (!state.isLawful()) {
            throw new UnsupportedOperationException("the clips of the track would be in conflict");
        }
    }

    // ---- changes of the state

    // A change is made in a draft, so that a call that throws leaves no trace.
    private State draft() {
        spare.takeFrom(now);
        return spare;
    }

    private void keepDraft() {
        if (savedCount >= MAX_SAVED) {
            dropOldest();
        }
        State free = saved[savedCount];
        saved[savedCount] = now;
        savedCount++;
        now = spare;
        spare = free;
    }

    private void keepSound() {
        keepDraft();
        forgetDucking();
    }

    private void dropOldest() {
        State oldest = saved[0];
        for (int k = 1; k < saved.length; k++) {
            saved[k - 1] = saved[k];
        }
        saved[MAX_SAVED - 1] = oldest;
        savedCount = MAX_SAVED - 1;
    }

    // ---- the sound

    private static int applied(int value, int gain) {
        return Math.floorDiv(value * gain, UNITY);
    }

    private static long hashed(long h, long value) {
        return 31 * h + value;
    }

    private void forgetDucking() {
        for (int t = 0; t < TRACKS; t++) {
            curves[t].forget();
        }
    }

    // Each window of the key is looked at once for a sound: a level costs 40 dry values.
    private void learnDucking(int track, int position) {
        Track ducked = now.tracks[track];
        if (ducked.key == NONE) {
            return;
        }
        int window = position / WINDOW;
        for (int m = curves[track].windows; m <= window; m++) {
            curves[track].follow(ducked, now.reaches(ducked.key, m - 1, ducked.threshold));
        }
    }

    private int duckGainAt(int track, int position) {
        return now.tracks[track].key == NONE ? UNITY : curves[track].gainAt(position);
    }

    private int valueOfTrack(int track, int position) {
        return applied(now.dryValue(track, position), duckGainAt(track, position));
    }

    private void mixInto(Frame target, int position) {
        boolean someSolo = now.hasSolo();
        int left = 0;
        int right = 0;
        for (int t = 0; t < TRACKS; t++) {
            Track track = now.tracks[t];
            if (track.isHeard(someSolo)) {
                learnDucking(t, position);
                int value = valueOfTrack(t, position);
                left += Math.floorDiv(value * (100 - Math.max(0, track.panorama)), 100);
                right += Math.floorDiv(value * (100 + Math.min(0, track.panorama)), 100);
            }
        }
        target.limit(applied(left, now.master), applied(right, now.master));
    }

    private static final class Source {
        int shape = CONSTANT;
        int amplitude;
        int period = 1;
        int size = TIMELINE;

        void define(int newShape, int newAmplitude, int newPeriod, int newSize) {
            shape = newShape;
            amplitude = newAmplitude;
            period = newPeriod;
            size = newSize;
        }

        void takeFrom(Source other) {
            define(other.shape, other.amplitude, other.period, other.size);
        }

        int valueAt(int index) {
            if (index < 0 || index >= size || period < 1) {
                return 0;
            }
            int q = index % period;
            switch (shape) {
                case SQUARE:
                    return 2 * q < period ? amplitude : -amplitude;
                case SAW:
                    return 2 * amplitude * q / period - amplitude;
                case NOISE:
                    int width = 2 * Math.max(0, amplitude) + 1;
                    long x = (1103515245L * (index + 1) + 12345L * period) % 2147483648L;
                    return (int) (x / 65536 % width) - amplitude;
                default:
                    return amplitude;
            }
        }
    }

    private static final class Clip {
        int track;
        int source;
        int start;
        int offset;
        int size;
        int gain;
        int fadeIn;
        int fadeOut;
        int curve;

        void fade(int newFadeIn, int newFadeOut, int newCurve) {
            fadeIn = newFadeIn;
            fadeOut = newFadeOut;
            curve = newCurve;
        }

        void place(int newTrack, int newStart, int newSize) {
            track = newTrack;
            start = newStart;
            size = newSize;
        }

        void play(int newSource, int newOffset, int newGain) {
            source = newSource;
            offset = newOffset;
            gain = newGain;
        }

        void takeFrom(Clip other) {
            place(other.track, other.start, other.size);
            play(other.source, other.offset, other.gain);
            fade(other.fadeIn, other.fadeOut, other.curve);
        }

        int end() {
            return start + size;
        }

        boolean covers(int position) {
            return position >= start && position < start + size;
        }

        boolean isBefore(Clip other) {
            return track != other.track ? track < other.track : start < other.start;
        }

        void trim(int front, int back) {
            start += front;
            offset += front;
            size -= front + back;
            fadeIn = Math.min(fadeIn, size);
            fadeOut = Math.min(fadeOut, size);
        }

        // A clip that lies inside the stretch would be left without a position: the caller drops it.
        void loseStretch(int from, int to) {
            if (start < from) {
                if (end() > from) {
                    trim(0, end() - from);
                }
                return;
            }
            if (start < to) {
                trim(to - start, 0);
            }
            start -= to - from;
        }

        int fadeGain(int distance, int fadeSize) {
            if (fadeSize < 1 || distance >= fadeSize) {
                return UNITY;
            }
            int f = UNITY * distance / fadeSize;
            return curve == SQUARE_CURVE ? f * f / UNITY : f;
        }

        int property(int what) {
            switch (what) {
                case 0:
                    return track;
                case 1:
                    return source;
                case 2:
                    return start;
                case 3:
                    return offset;
                case 4:
                    return size;
                case 5:
                    return gain;
                case 6:
                    return fadeIn;
                case 7:
                    return fadeOut;
                default:
                    return curve;
            }
        }
    }

    private static final class Track {
        int gain = UNITY;
        int panorama;
        boolean muted;
        boolean solo;
        int pointCount;
        final int[] pointPosition = new int[MAX_POINTS];
        final int[] pointValue = new int[MAX_POINTS];
        final boolean[] pointHold = new boolean[MAX_POINTS];
        int key = NONE;
        int threshold;
        int floorGain;
        int attack;
        int release;

        void takeFrom(Track other) {
            gain = other.gain;
            panorama = other.panorama;
            muted = other.muted;
            solo = other.solo;
            pointCount = other.pointCount;
            for (int k = 0; k < pointCount; k++) {
                setPlace(k, other.pointPosition[k], other.pointValue[k], other.pointHold[k]);
            }
            key = other.key;
            threshold = other.threshold;
            floorGain = other.floorGain;
            attack = other.attack;
            release = other.release;
        }

        boolean isHeard(boolean someSolo) {
            return !muted && (!someSolo || solo);
        }

        private void setPlace(int place, int position, int value, boolean hold) {
            pointPosition[place] = position;
            pointValue[place] = value;
            pointHold[place] = hold;
        }

        private void copyPlace(int to, int from) {
            setPlace(to, pointPosition[from], pointValue[from], pointHold[from]);
        }

        int pointAt(int position) {
            int point = lastPointUpTo(position);
            return point != NONE && pointPosition[point] == position ? point : NONE;
        }

        private int lastPointUpTo(int position) {
            int last = NONE;
            for (int k = 0; k < pointCount && pointPosition[k] <= position; k++) {
                last = k;
            }
            return last;
        }

        void putPoint(int position, int value, boolean hold) {
            int place = lastPointUpTo(position);
            if (place == NONE || pointPosition[place] != position) {
                if (pointCount >= MAX_POINTS) {
                    return;
                }
                place++;
                for (int k = pointCount; k > place; k--) {
                    copyPlace(k, k - 1);
                }
                pointCount++;
            }
            setPlace(place, position, value, hold);
        }

        void dropPoint(int point) {
            for (int k = point + 1; k < pointCount; k++) {
                copyPlace(k - 1, k);
            }
            pointCount--;
        }

        int laneGain(int position) {
            if (pointCount == 0) {
                return UNITY;
            }
            int p = lastPointUpTo(position);
            if (p == NONE) {
                return pointValue[0];
            }
            int q = p + 1;
            if (pointHold[p] || q >= pointCount) {
                return pointValue[p];
            }
            int span = pointPosition[q] - pointPosition[p];
            if (span < 1) {
                return pointValue[p];
            }
            int rise = pointValue[q] - pointValue[p];
            return pointValue[p] + Math.floorDiv(rise * (position - pointPosition[p]), span);
        }

        long hashTrack(long before) {
            long h = hashed(hashed(before, gain), panorama);
            h = hashed(hashed(h, muted ? 1 : 0), solo ? 1 : 0);
            h = hashed(h, pointCount);
            for (int k = 0; k < pointCount; k++) {
                h = hashed(hashed(h, pointPosition[k]), pointValue[k]);
                h = hashed(h, pointHold[k] ? 1 : 0);
            }
            h = hashed(h, key);
            if (key != NONE) {
                h = hashed(hashed(h, threshold), floorGain);
                h = hashed(hashed(h, attack), release);
            }
            return h;
        }
    }

    /** The left and the right sample at one position, made once and filled again and again. */
    private static final class Frame {
        int left;
        int right;
        int clipped;

        void limit(int fullLeft, int fullRight) {
            left = Math.max(-LIMIT, Math.min(LIMIT, fullLeft));
            right = Math.max(-LIMIT, Math.min(LIMIT, fullRight));
            clipped = (left == fullLeft ? 0 : 1) + (right == fullRight ? 0 : 1);
        }
    }

    private static final class Meters {
        long rendered;
        long greatestLeft;
        long greatestRight;
        long clipped;
        long checkSum = FIRST_CHECK_SUM;

        void takeFrom(Meters other) {
            rendered = other.rendered;
            greatestLeft = other.greatestLeft;
            greatestRight = other.greatestRight;
            clipped = other.clipped;
            checkSum = other.checkSum;
        }

        void clear() {
            rendered = 0;
            greatestLeft = 0;
            greatestRight = 0;
            clipped = 0;
            checkSum = FIRST_CHECK_SUM;
        }

        void take(Frame frame) {
            rendered++;
            greatestLeft = Math.max(greatestLeft, Math.abs(frame.left));
            greatestRight = Math.max(greatestRight, Math.abs(frame.right));
            clipped += frame.clipped;
            checkSum = hashed(hashed(checkSum, frame.left), frame.right);
        }

        long reading(int what) {
            switch (what) {
                case 0:
                    return rendered;
                case 1:
                    return greatestLeft;
                case 2:
                    return greatestRight;
                case 3:
                    return clipped;
                default:
                    return checkSum;
            }
        }
    }

    /** The duck gains of a track at the ends of windows, as far as they were asked for. */
    private static final class DuckCurve {
        // ends[m + 1] is D(m): D(-1) has a place, too.
        private final int[] ends = new int[WINDOWS + 1];
        int windows = 1;

        DuckCurve() {
            ends[0] = UNITY;
            ends[1] = UNITY;
        }

        // D(-1) and D(0) are the same for every ducking and stay.
        void forget() {
            windows = 1;
        }

        void follow(Track ducked, boolean loud) {
            if (windows + 1 >= ends.length) {
                return;
            }
            int before = ends[windows];
            windows++;
            ends[windows] = loud
                    ? Math.max(ducked.floorGain, before - ducked.attack)
                    : Math.min(UNITY, before + ducked.release);
        }

        int gainAt(int position) {
            int m = position / WINDOW;
            if (m < 0 || m >= windows) {
                return UNITY;
            }
            int rise = ends[m + 1] - ends[m];
            return ends[m] + Math.floorDiv(rise * (position - WINDOW * m), WINDOW);
        }
    }

    /** All that undo() brings back. */
    private static final class State {
        final Source[] sources = new Source[SOURCES];
        // The clips beyond clipCount are free places, waiting for new clips.
        final Clip[] clipRow = new Clip[MAX_CLIPS];
        int clipCount;
        final Track[] tracks = new Track[TRACKS];
        int master = UNITY;
        int playhead;
        int loopFrom;
        int loopTo = TIMELINE;
        final Meters meters = new Meters();

        State() {
            for (int k = 0; k < sources.length; k++) {
                sources[k] = new Source();
            }
            for (int k = 0; k < clipRow.length; k++) {
                clipRow[k] = new Clip();
            }
            for (int k = 0; k < tracks.length; k++) {
                tracks[k] = new Track();
            }
        }

        void takeFrom(State other) {
            for (int k = 0; k < SOURCES; k++) {
                sources[k].takeFrom(other.sources[k]);
            }
            clipCount = other.clipCount;
            for (int k = 0; k < clipCount; k++) {
                clipRow[k].takeFrom(other.clipRow[k]);
            }
            for (int k = 0; k < TRACKS; k++) {
                tracks[k].takeFrom(other.tracks[k]);
            }
            master = other.master;
            playhead = other.playhead;
            loopFrom = other.loopFrom;
            loopTo = other.loopTo;
            meters.takeFrom(other.meters);
        }

        void advance() {
            playhead++;
            if (playhead == loopTo || playhead >= TIMELINE) {
                playhead = loopFrom;
            }
        }

        boolean hasSolo() {
            for (Track track : tracks) {
                if (track.solo) {
                    return true;
                }
            }
            return false;
        }

        boolean isKey(int track) {
            for (Track other : tracks) {
                if (other.key == track) {
                    return true;
                }
            }
            return false;
        }

        int insert(int track, int source, int start, int offset, int size, int gain) {
            if (clipCount >= MAX_CLIPS) {
                return NONE;
            }
            Clip added = clipRow[clipCount];
            clipCount++;
            added.place(track, start, size);
            added.play(source, offset, gain);
            added.fade(0, 0, LINEAR);
            return settle(clipCount - 1);
        }

        int cutInTwo(int number, int position) {
            if (clipCount >= MAX_CLIPS) {
                return NONE;
            }
            Clip first = clipRow[number];
            Clip second = clipRow[clipCount];
            clipCount++;
            second.takeFrom(first);
            second.trim(position - first.start, 0);
            second.fadeIn = 0;
            first.trim(0, first.end() - position);
            first.fadeOut = 0;
            return settle(clipCount - 1);
        }

        // Moves one clip to its place in a row whose other clips stand in order.
        int settle(int number) {
            int place = number;
            while (place > 0 && clipRow[place].isBefore(clipRow[place - 1])) {
                swap(place, place - 1);
                place--;
            }
            while (place < clipCount - 1 && clipRow[place + 1].isBefore(clipRow[place])) {
                swap(place, place + 1);
                place++;
            }
            return place;
        }

        private void swap(int one, int other) {
            Clip kept = clipRow[one];
            clipRow[one] = clipRow[other];
            clipRow[other] = kept;
        }

        void drop(int number) {
            for (int k = number; k < clipCount - 1; k++) {
                swap(k, k + 1);
            }
            clipCount--;
        }

        int cutOut(int track, int from, int to) {
            int removed = 0;
            // From the back, so that a dropped clip moves none that is still to be seen.
            for (int k = clipCount - 1; k >= 0; k--) {
                Clip clip = clipRow[k];
                if (clip.track == track) {
                    if (clip.start >= from && clip.end() <= to) {
                        drop(k);
                        removed++;
                    } else {
                        clip.loseStretch(from, to);
                    }
                }
            }
            return removed;
        }

        boolean offsetsFit() {
            for (int k = 0; k < clipCount; k++) {
                if (clipRow[k].offset > MAX_OFFSET) {
                    return false;
                }
            }
            return true;
        }

        // In a row with rising starts and ends, three clips meet only if each third one meets the first.
        boolean isLawful() {
            for (int k = 1; k < clipCount; k++) {
                Clip a = clipRow[k - 1];
                Clip b = clipRow[k];
                if (a.track == b.track && (a.start >= b.start || a.end() >= b.end())) {
                    return false;
                }
            }
            for (int k = 2; k < clipCount; k++) {
                Clip a = clipRow[k - 2];
                Clip c = clipRow[k];
                if (a.track == c.track && c.start < a.end()) {
                    return false;
                }
            }
            return true;
        }

        int rawValue(Clip clip, int position) {
            int i = position - clip.start;
            int value = clip.source < sources.length ? sources[clip.source].valueAt(clip.offset + i) : 0;
            value = applied(value, clip.gain);
            value = applied(value, clip.fadeGain(i, clip.fadeIn));
            return applied(value, clip.fadeGain(clip.size - 1 - i, clip.fadeOut));
        }

        int dryValue(int track, int position) {
            int first = firstCovering(track, position);
            if (first == NONE) {
                return 0;
            }
            Clip a = clipRow[first];
            int value = rawValue(a, position);
            // Two clips that cover a position are neighbours in the row.
            Clip b = first + 1 < clipCount ? clipRow[first + 1] : a;
            int span = a.end() - b.start;
            if (b != a && b.track == track && b.covers(position) && span > 0) {
                int w = UNITY * (position - b.start) / span;
                value = applied(value, UNITY - w) + applied(rawValue(b, position), w);
            }
            return applied(applied(value, tracks[track].gain), tracks[track].laneGain(position));
        }

        private int firstCovering(int track, int position) {
            for (int k = 0; k < clipCount; k++) {
                if (clipRow[k].track == track && clipRow[k].covers(position)) {
                    return k;
                }
            }
            return NONE;
        }

        // Only whether the level reaches the threshold matters, so the first such value ends the search.
        boolean reaches(int track, int window, int threshold) {
            if (threshold <= 0) {
                return true;
            }
            int from = window * WINDOW;
            if (!hasClipWithin(track, from, from + WINDOW)) {
                return false;
            }
            for (int n = from; n < from + WINDOW; n++) {
                if (Math.abs(dryValue(track, n)) >= threshold) {
                    return true;
                }
            }
            return false;
        }

        private boolean hasClipWithin(int track, int from, int to) {
            for (int k = 0; k < clipCount; k++) {
                Clip clip = clipRow[k];
                if (clip.track == track && clip.start < to && clip.end() > from) {
                    return true;
                }
            }
            return false;
        }

        long hashTransport(long before) {
            long h = hashed(before, playhead);
            h = hashed(hashed(h, loopFrom), loopTo);
            h = hashed(h, master);
            for (int what = 0; what <= LAST_METER; what++) {
                h = hashed(h, meters.reading(what));
            }
            return h;
        }

        long hashSources(long before) {
            long h = before;
            for (Source source : sources) {
                h = hashed(hashed(h, source.shape), source.amplitude);
                h = hashed(hashed(h, source.period), source.size);
            }
            return h;
        }

        long hashClips(long before) {
            long h = hashed(before, clipCount);
            for (int k = 0; k < clipCount; k++) {
                for (int what = 0; what <= LAST_PROPERTY; what++) {
                    h = hashed(h, clipRow[k].property(what));
                }
            }
            return h;
        }
    }
}

import java.util.ArrayList;
import java.util.List;

/** The boundaries that the document names for undo and the digest: promises 1, 31 and 32, and "An object is used". */
public final class UndoEdgesTest {
    private static final List<String> NAMES = new ArrayList<>();
    private static final List<Edge.Call> UNDOABLE = new ArrayList<>();
    private static final List<Edge.Call> IDLE = new ArrayList<>();
    private static final List<Edge.Call> LOOKS = new ArrayList<>();

    public static void main(String[] args) {
        listUndoable();
        listIdle();
        listLooks();
        emptyStack();
        fourStates();
        eachUndoableSaves();
        eachUndoableIsUndone();
        eachUndoableIsHeardAtOnce();
        eachIdleCallSaves();
        undoSavesNothing();
        looksSaveNothing();
        fullStackDropsTheOldest();
        stackAfterRefusedCalls();
        mixersApart();
        digestOfNewMixer();
        digestOfStack();
        digestOfAll();
        lastOf512Calls();
        Check.end();
    }

    private static void undoable(String name, Edge.Call call) {
        NAMES.add(name);
        UNDOABLE.add(call);
    }

    // Calls that change something in Edge.rich(), one for each method that is marked "undoable".
    private static void listUndoable() {
        undoable("setSource", x -> x.setSource(0, 3, 9999, 999, 3999));
        undoable("addClip", x -> x.addClip(2, 3, 500, 3, 1000, 999));
        undoable("setFades", x -> x.setFades(0, 77, 88, 1));
        undoable("moveClip", x -> x.moveClip(2, 800));
        undoable("moveClip to an end", x -> x.moveClip(1, 3000));
        undoable("trimClip", x -> x.trimClip(1, 10, 20));
        undoable("splitClip", x -> x.splitClip(3, 1500));
        undoable("removeClip", x -> x.removeClip(0));
        undoable("deleteTime", x -> x.deleteTime(0, 500, 3500));
        undoable("setTrack", x -> x.setTrack(0, 1999, 99, true, true));
        undoable("setPoint", x -> x.setPoint(0, 500, 5, true));
        undoable("setPoint again", x -> x.setPoint(0, 100, 5, true));
        undoable("removePoint", x -> x.removePoint(0, 100));
        undoable("duck", x -> x.duck(2, 3, 5, 5, 5, 5));
        undoable("duck again", x -> x.duck(0, 1, 5, 5, 5, 5));
        undoable("endDuck", x -> x.endDuck(0));
        undoable("setMaster", x -> x.setMaster(1));
        undoable("setLoop", x -> x.setLoop(1, 2));
        undoable("seek", x -> x.seek(3999));
        undoable("render", x -> x.render(1000));
        undoable("clearMeters", x -> x.clearMeters());
        listUndoableOfTheKey();
    }

    // Track 1, with clip 2 of source 1, ducks track 0.
    private static void listUndoableOfTheKey() {
        undoable("setSource of the key", x -> x.setSource(1, 0, 2999, 1, 4000));
        undoable("addClip of the key", x -> x.addClip(1, 1, 3000, 0, 900, 1000));
        undoable("setFades of the key", x -> x.setFades(2, 4000, 0, 0));
        undoable("trimClip of the key", x -> x.trimClip(2, 50, 30));
        undoable("splitClip of the key", x -> x.splitClip(2, 241));
        undoable("removeClip of the key", x -> x.removeClip(2));
        undoable("deleteTime of the key", x -> x.deleteTime(1, 10, 210));
        undoable("setTrack of the key", x -> x.setTrack(1, 500, 0, false, false));
        undoable("setPoint of the key", x -> x.setPoint(1, 260, 0, true));
    }

    // Calls that change nothing in Edge.rich() after seek(5) and clearMeters(): they are saved all the same.
    private static void listIdle() {
        IDLE.add(x -> x.setSource(0, 0, 1000, 1, 4000));
        IDLE.add(x -> x.setFades(1, 50, 300, 1));
        IDLE.add(x -> x.moveClip(0, 0));
        IDLE.add(x -> x.trimClip(0, 0, 0));
        IDLE.add(x -> x.deleteTime(2, 0, 4000));
        IDLE.add(x -> x.setTrack(3, 800, -30, false, false));
        IDLE.add(x -> x.setPoint(0, 100, 500, false));
        IDLE.add(x -> x.duck(0, 1, 3000, 300, 200, 100));
        IDLE.add(x -> x.endDuck(3));
        IDLE.add(x -> x.setMaster(900));
        IDLE.add(x -> x.setLoop(20, 2500));
        IDLE.add(x -> x.seek(5));
        IDLE.add(x -> x.clearMeters());
    }

    private static void listLooks() {
        LOOKS.add(x -> x.sample(0, 0));
        LOOKS.add(x -> x.clips());
        LOOKS.add(x -> x.clip(3, 8));
        LOOKS.add(x -> x.clipValue(0, 2999));
        LOOKS.add(x -> x.automation(0, 500));
        LOOKS.add(x -> x.duckGain(0, 3999));
        LOOKS.add(x -> x.trackValue(0, 3999));
        LOOKS.add(x -> x.isAudible(0) ? 1 : 0);
        LOOKS.add(x -> x.mix(3999, true));
        LOOKS.add(x -> x.meter(4));
        LOOKS.add(x -> x.length());
        LOOKS.add(x -> x.digest());
    }

    // "if the stack is empty"
    private static void emptyStack() {
        Edge.refused("undo() of a new mixer", Edge::empty, Edge.STATE, x -> x.undo());
        Edge.refused("a second undo()", Edge.with(Edge::empty, x -> {
            x.seek(5);
            x.undo();
        }), Edge.STATE, x -> x.undo());
        Edge.refused("a fifth undo()", Edge.with(Edge::rich, x -> {
            for (int k = 0; k < 4; k++) {
                x.undo();
            }
        }), Edge.STATE, x -> x.undo());
    }

    // "The stack keeps the latest 4 saved states and drops older ones."
    private static void fourStates() {
        for (int calls = 1; calls <= 12; calls++) {
            ClipMixer x = new ClipMixer();
            for (int k = 1; k <= calls; k++) {
                x.seek(k);
            }
            for (int k = 1; k <= Math.min(4, calls); k++) {
                Check.same("states left of " + calls, x.undo(), Math.min(4, calls) - k);
            }
            Check.fails("one more undo() after " + calls, x, Edge.STATE, () -> x.undo());
            Check.same("the oldest state of " + calls, x.seek(0), Math.max(0, calls - 4));
        }
    }

    private static void eachUndoableSaves() {
        for (int k = 0; k < UNDOABLE.size(); k++) {
            Edge.Call call = UNDOABLE.get(k);
            ClipMixer full = Edge.rich();
            long fullBefore = full.digest();
            call.on(full);
            Check.yes(NAMES.get(k) + " changes something", full.digest() != fullBefore);
            ClipMixer x = Edge.rich();
            x.undo();
            long before = x.digest();
            call.on(x);
            Check.same("states left after " + NAMES.get(k), x.undo(), 3);
            Check.same("the state before " + NAMES.get(k), x.digest(), before);
        }
    }

    // "saves the whole state (playhead, loop and meters, too)"
    private static void eachUndoableIsUndone() {
        for (int k = 0; k < UNDOABLE.size(); k++) {
            for (int j = 0; j < UNDOABLE.size(); j++) {
                twoUndone(NAMES.get(k) + ", " + NAMES.get(j), UNDOABLE.get(k), UNDOABLE.get(j));
            }
        }
    }

    // The second call may throw after the first one: then one state is there to be undone, and not two.
    private static void twoUndone(String what, Edge.Call one, Edge.Call other) {
        ClipMixer x = Edge.rich();
        for (int k = 0; k < 3; k++) {
            x.undo();
        }
        long before = x.digest();
        one.on(x);
        long between = x.digest();
        boolean threw = Edge.answer(x, other).endsWith("Exception");
        Check.same("states after " + what, x.undo(), threw ? 1 : 2);
        if (!threw) {
            Check.same("the state between " + what, x.digest(), between);
            Check.same("states left after " + what, x.undo(), 1);
        }
        Check.same("the state before " + what, x.digest(), before);
    }

    // A mixer that was asked for its values before a call answers like one that was not, then and after undo().
    private static void eachUndoableIsHeardAtOnce() {
        for (int k = 0; k < UNDOABLE.size(); k++) {
            ClipMixer asked = Edge.rich();
            String before = heard(asked);
            UNDOABLE.get(k).on(asked);
            ClipMixer fresh = Edge.rich();
            UNDOABLE.get(k).on(fresh);
            Check.same("values after " + NAMES.get(k), heard(asked), heard(fresh));
            asked.undo();
            Check.same("values after undo() of " + NAMES.get(k), heard(asked), before);
        }
    }

    private static String heard(ClipMixer x) {
        StringBuilder text = new StringBuilder();
        for (int n = 61; n < 4000; n += 105) {
            text.append(x.duckGain(0, n)).append(' ').append(x.trackValue(0, n)).append(' ');
            text.append(x.mix(n, true)).append(' ');
        }
        return text.toString();
    }

    // "also if it changes nothing"
    private static void eachIdleCallSaves() {
        for (int k = 0; k < IDLE.size(); k++) {
            ClipMixer x = Edge.rich();
            x.seek(5);
            x.clearMeters();
            long before = x.digest();
            IDLE.get(k).on(x);
            Check.same("the state after idle call " + k, x.digest(), before);
            x.undo();
            x.undo();
            IDLE.get(k).on(x);
            Check.same("states left after idle call " + k, x.undo(), 2);
        }
    }

    private static void undoSavesNothing() {
        ClipMixer x = new ClipMixer();
        for (int k = 1; k <= 4; k++) {
            x.seek(k);
        }
        Check.same("three states are left", x.undo(), 3);
        Check.same("two states are left", x.undo(), 2);
        x.seek(7);
        Check.same("the undone ones are gone", x.undo(), 2);
        Check.same("the state of before", x.seek(8), 2);
        x.seek(9);
        x.seek(10);
        Check.same("full again", x.undo(), 3);
        for (int left = 2; left >= 0; left--) {
            Check.same("states left at the end", x.undo(), left);
        }
        Check.same("the oldest state", x.seek(0), 1);
    }

    private static void looksSaveNothing() {
        for (int k = 0; k < LOOKS.size(); k++) {
            Edge.Call look = LOOKS.get(k);
            ClipMixer x = Edge.rich();
            x.undo();
            long before = x.digest();
            long seen = look.on(x);
            Check.same("the state after look " + k, x.digest(), before);
            Check.same("look " + k + " again", look.on(x), seen);
            Check.same("states left after look " + k, x.undo(), 2);
            Edge.answers("look " + k + " of a new mixer", Edge::empty, 0, m -> {
                Edge.answer(m, look);
                m.seek(5);
                return m.undo();
            });
        }
    }

    private static void fullStackDropsTheOldest() {
        for (int k = 0; k < UNDOABLE.size(); k++) {
            ClipMixer x = new ClipMixer();
            x.seek(1);
            ClipMixer y = Edge.rich();
            y.seek(2);
            y.seek(3);
            y.seek(4);
            y.seek(5);
            Edge.Call call = UNDOABLE.get(k);
            call.on(y);
            for (int left = 3; left >= 0; left--) {
                Check.same("states left of a full stack, " + NAMES.get(k), y.undo(), left);
            }
            Check.same("the oldest one of a full stack, " + NAMES.get(k), y.seek(0), 2);
            Check.same("another mixer", x.undo(), 0);
        }
    }

    // "A call that throws an exception changes nothing.": nor does a long row of them.
    private static void stackAfterRefusedCalls() {
        Edge.Maker made = Edge.with(Edge::rich, x -> x.undo());
        ClipMixer x = made.make();
        long before = x.digest();
        for (int k = 0; k < 20; k++) {
            Edge.answer(x, m -> m.setSource(6, 0, 0, 1, 1));
            Edge.answer(x, m -> m.addClip(0, 0, 0, 0, 5, 5));
            Edge.answer(x, m -> m.moveClip(1, 0));
            Edge.answer(x, m -> m.trimClip(0, 2950, 0));
            Edge.answer(x, m -> m.splitClip(0, 2950));
            Edge.answer(x, m -> m.deleteTime(0, 2950, 2999));
            Edge.answer(x, m -> m.duck(1, 2, 5, 5, 5, 5));
            Edge.answer(x, m -> m.render(1001));
        }
        Check.same("the state after refused calls", x.digest(), before);
        ClipMixer y = made.make();
        for (int left = 2; left >= 0; left--) {
            Check.same("states left after refused calls", x.undo(), left);
            y.undo();
            Check.same("the states on the stack", x.digest(), y.digest());
        }
    }

    private static void mixersApart() {
        ClipMixer x = Edge.rich();
        long before = x.digest();
        ClipMixer y = new ClipMixer();
        for (Edge.Call call : UNDOABLE) {
            Edge.answer(y, call);
        }
        Check.same("another mixer leaves this one", x.digest(), before);
        Check.same("a new one is new", new ClipMixer().digest(), hash(newState()));
    }

    private static long hash(List<Long> values) {
        long h = 18363;
        for (long v : values) {
            h = 31 * h + v;
        }
        return h;
    }

    private static List<Long> list(long... values) {
        List<Long> all = new ArrayList<>();
        for (long v : values) {
            all.add(v);
        }
        return all;
    }

    private static List<Long> newState() {
        List<Long> due = list(0, 0, 0, 4000, 1000, 0, 0, 0, 0, 7);
        for (int s = 0; s < 6; s++) {
            due.addAll(list(0, 0, 1, 4000));
        }
        due.addAll(list(0));
        for (int t = 0; t < 4; t++) {
            due.addAll(list(1000, 0, 0, 0, 0, -1));
        }
        for (int n = 0; n < 4000; n += 50) {
            due.addAll(list(0, 0));
        }
        return due;
    }

    private static void digestOfNewMixer() {
        Check.same("digest() of a new mixer", new ClipMixer().digest(), hash(newState()));
        ClipMixer x = new ClipMixer();
        x.seek(3999);
        x.undo();
        Check.same("digest() of a mixer as new", x.digest(), hash(newState()));
    }

    // "the number of states on the undo stack": 0 to 4
    private static void digestOfStack() {
        ClipMixer x = new ClipMixer();
        for (int k = 1; k <= 6; k++) {
            x.seek(0);
            List<Long> due = newState();
            due.set(0, (long) Math.min(4, k));
            Check.same("digest() after " + k + " saved states", x.digest(), hash(due));
        }
    }

    // Each value that differs from that of a new mixer, at its place in the row.
    private static void digestOfAll() {
        ClipMixer x = new ClipMixer();
        x.setSource(5, ClipMixer.SAW, 10000, 1, 3999);
        x.addClip(3, 5, 100, 11, 3900, 1000);
        x.addClip(0, 0, 7, 3999, 9, 2000);
        x.setFades(1, 1, 4000, ClipMixer.LINEAR);
        x.setFades(0, 0, 13, ClipMixer.SQUARE_CURVE);
        x.setFades(1, 1, 0, ClipMixer.LINEAR);
        x.setTrack(1, 2000, -100, true, false);
        x.setTrack(3, 1000, 50, false, true);
        x.setPoint(2, 3999, 0, true);
        x.setPoint(2, 5, 2000, false);
        x.duck(0, 2, 100000, 999, 17, 1000);
        x.duck(1, 2, 1, 2, 3, 4);
        x.setMaster(500);
        x.setLoop(3, 3999);
        x.seek(100);
        x.render(2);
        List<Long> due = list(4, 102, 3, 3999, 500, 2, 2500, 5000, 0);
        long k = 7;
        for (int sample : new int[] {0, 0, -2500, -5000}) {
            k = 31 * k + sample;
        }
        due.add(k);
        for (int s = 0; s < 5; s++) {
            due.addAll(list(0, 0, 1, 4000));
        }
        due.addAll(list(2, 10000, 1, 3999));
        due.addAll(list(2, 0, 0, 7, 3999, 9, 2000, 0, 13, 1, 3, 5, 100, 11, 3900, 1000, 1, 0, 0));
        due.addAll(list(1000, 0, 0, 0, 0, 2, 100000, 999, 17, 1000));
        due.addAll(list(2000, -100, 1, 0, 0, 2, 1, 2, 3, 4));
        due.addAll(list(1000, 0, 0, 0, 2, 5, 2000, 0, 3999, 0, 1, -1));
        due.addAll(list(1000, 50, 0, 1, 0, -1));
        for (int n = 0; n < 4000; n += 50) {
            due.addAll(n <= 100 ? list(0, 0) : list(-2500, -5000));
        }
        Check.same("digest() of everything", x.digest(), hash(due));
    }

    // "An object is used for at most 512 calls after it has been made": the last one is still due.
    private static void lastOf512Calls() {
        // 511 times 1000 positions are 127 times the timeline and 3000 positions.
        after511Calls("seek", (x, k) -> x.seek(k), 511);
        after511Calls("render", (x, k) -> x.render(1000), 3000);
        after511Calls("a refused seek", (x, k) -> x.seek(4000), 0);
        after511Calls("all of them by turns", (x, k) -> k % 3 == 0 ? x.seek(k) : k % 3 == 1 ? x.render(1000)
                : x.seek(-1), 1510);
        for (int undone = 1; undone <= 4; undone++) {
            ClipMixer x = new ClipMixer();
            for (int k = 1; k <= 512 - undone; k++) {
                x.setMaster(k);
            }
            for (int k = 1; k <= undone; k++) {
                Check.same("undo() as one of the last calls", x.undo(), 4 - k);
            }
        }
        ClipMixer x = new ClipMixer();
        for (int k = 1; k <= 255; k++) {
            x.addClip(k % 4, 0, k, 0, 5, 5);
            x.removeClip(0);
        }
        Check.same("call 511 is a clip", x.addClip(0, 0, 0, 0, 5, 5), 0);
        Check.same("call 512 is its value", x.clipValue(0, 4), 0);
    }

    private static void after511Calls(String what, Edge.Use use, int due) {
        ClipMixer x = new ClipMixer();
        for (int k = 1; k <= 511; k++) {
            int each = k;
            Edge.answer(x, m -> use.on(m, each));
        }
        Check.same("call 512 after " + what, x.seek(0), due);
    }
}

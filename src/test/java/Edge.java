/**
 * For the tests of boundaries: each look has a mixer made anew, so that no object comes near its 512th call, and a
 * refused call can be set against a twin that never saw it.
 */
final class Edge {
    static final Class<?> BOUNDS = IndexOutOfBoundsException.class;
    static final Class<?> ARGUMENT = IllegalArgumentException.class;
    static final Class<?> STATE = IllegalStateException.class;
    static final Class<?> CONFLICT = UnsupportedOperationException.class;

    interface Maker {
        ClipMixer make();
    }

    interface Setup {
        void on(ClipMixer x);
    }

    interface Call {
        long on(ClipMixer x);
    }

    interface Use {
        long on(ClipMixer x, int value);
    }

    private Edge() {
    }

    static Maker with(Maker first, Setup then) {
        return () -> {
            ClipMixer x = first.make();
            then.on(x);
            return x;
        };
    }

    static ClipMixer empty() {
        return new ClipMixer();
    }

    /** Something of everything: four clips on three tracks, a crossfade, points, a ducked track, a full undo stack. */
    static ClipMixer rich() {
        ClipMixer x = new ClipMixer();
        x.setSource(0, ClipMixer.CONSTANT, 1000, 1, 4000);
        x.setSource(1, ClipMixer.SQUARE, 4000, 100, 3000);
        x.setSource(2, ClipMixer.SAW, 777, 33, 3999);
        x.setSource(3, ClipMixer.NOISE, 3000, 7, 2500);
        x.addClip(0, 0, 0, 0, 3000, 1000);
        x.addClip(0, 2, 2900, 10, 1000, 1500);
        x.addClip(1, 1, 200, 0, 120, 1000);
        x.addClip(3, 3, 500, 100, 2000, 900);
        x.setFades(1, 50, 300, ClipMixer.SQUARE_CURVE);
        x.setTrack(3, 800, -30, false, false);
        x.setPoint(0, 100, 500, false);
        x.setPoint(0, 900, 1800, true);
        x.duck(0, 1, 3000, 300, 200, 100);
        x.setMaster(900);
        x.setLoop(20, 2500);
        x.render(37);
        x.render(21);
        return x;
    }

    /** The answer as a text, or the class of what was thrown. */
    static String answer(ClipMixer x, Call call) {
        try {
            return Long.toString(call.on(x));
        } catch (RuntimeException e) {
            return e.getClass().getName();
        }
    }

    static void answers(String what, Maker maker, long due, Call call) {
        Check.same(what, answer(maker.make(), call), Long.toString(due));
    }

    static void taken(String what, Maker maker, Call call) {
        String got = answer(maker.make(), call);
        Check.yes(what + " is taken, but it threw " + got, !got.endsWith("Exception") && !got.endsWith("Error"));
    }

    /** The call throws just this class, and neither the state nor anything on the undo stack is another one. */
    static void refused(String what, Maker maker, Class<?> due, Call call) {
        for (boolean goesOn : new boolean[] {false, true}) {
            ClipMixer x = maker.make();
            Check.same(what, answer(x, call), due.getName());
            Check.same("what is left after " + what, trace(x, goesOn), trace(maker.make(), goesOn));
        }
    }

    /** All from least to greatest is taken, and the next value on either side is the first that is refused. */
    static void range(String what, Maker maker, int least, int greatest, Class<?> due, Use use) {
        for (int v : new int[] {least, greatest}) {
            taken(what + " " + v, maker, x -> use.on(x, v));
        }
        for (int v : new int[] {least - 1, greatest + 1, Integer.MIN_VALUE, Integer.MAX_VALUE}) {
            refused(what + " " + v, maker, due, x -> use.on(x, v));
        }
    }

    // With goesOn, a change after the refused call must be built on what was there before it, too.
    private static String trace(ClipMixer x, boolean goesOn) {
        StringBuilder text = new StringBuilder(look(x));
        if (goesOn) {
            text.append(answer(x, m -> m.seek(777)));
            text.append(look(x));
        }
        for (int k = 0; k < 5; k++) {
            text.append(answer(x, m -> m.undo()));
            text.append(look(x));
        }
        return text.toString();
    }

    private static String look(ClipMixer x) {
        StringBuilder text = new StringBuilder(" ").append(x.digest());
        for (int track = 0; track < 4; track++) {
            text.append(' ').append(x.trackValue(track, 261)).append(' ').append(x.duckGain(track, 3999));
        }
        return text.append('\n').toString();
    }
}

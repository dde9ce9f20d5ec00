/** The four examples of the document, call by call. */
public final class ExamplesTest {
    public static void main(String[] args) {
        clipWithFades();
        crossfadeAndDeletedTime();
        duckedTrack();
        limiterAndLoop();
        Check.end();
    }

    private static void clipWithFades() {
        ClipMixer x = new ClipMixer();
        Check.same("setSource", x.setSource(0, 0, 1000, 1, 4000), 4000);
        Check.same("addClip", x.addClip(0, 0, 100, 0, 100, 1000), 0);
        Check.same("setFades", x.setFades(0, 50, 20, 0), 0);
        Check.same("clipValue in the fade-in", x.clipValue(0, 125), 500);
        Check.same("clipValue at the end", x.clipValue(0, 199), 0);
        Check.same("mix", x.mix(125, false), 500);
        Check.fails("clipValue before the clip", x, Edge.ARGUMENT, () -> x.clipValue(0, 99));
        Check.same("splitClip", x.splitClip(0, 150), 1);
        Check.same("the start of the second part", x.clip(1, 2), 150);
        Check.same("its offset", x.clip(1, 3), 50);
        Check.same("the fade-out of the first part", x.clip(0, 7), 0);
    }

    private static void crossfadeAndDeletedTime() {
        ClipMixer x = new ClipMixer();
        Check.same("setSource 0", x.setSource(0, 0, 1000, 1, 4000), 4000);
        Check.same("setSource 1", x.setSource(1, 0, 500, 1, 4000), 4000);
        Check.same("addClip", x.addClip(0, 0, 0, 0, 100, 1000), 0);
        Check.same("addClip again", x.addClip(0, 1, 80, 0, 100, 1000), 1);
        Check.same("the first position of the crossfade", x.trackValue(0, 80), 1000);
        Check.same("its middle", x.trackValue(0, 90), 750);
        Check.fails("a third clip", x, Edge.CONFLICT, () -> x.addClip(0, 1, 90, 0, 200, 1000));
        Check.same("deleteTime", x.deleteTime(0, 50, 90), 0);
        Check.same("clips", x.clips(), 2);
        Check.same("the start of the second clip", x.clip(1, 2), 50);
        Check.same("no crossfade any more", x.trackValue(0, 60), 500);
    }

    private static void duckedTrack() {
        ClipMixer x = new ClipMixer();
        Check.same("setSource 0", x.setSource(0, 0, 1000, 1, 4000), 4000);
        Check.same("setSource 1", x.setSource(1, 1, 4000, 100, 4000), 4000);
        Check.same("addClip", x.addClip(0, 0, 0, 0, 4000, 1000), 0);
        Check.same("addClip of the key", x.addClip(1, 1, 200, 0, 120, 1000), 1);
        Check.same("duck", x.duck(0, 1, 3000, 300, 200, 100), -1);
        Check.same("duckGain at 240", x.duckGain(0, 240), 1000);
        Check.same("duckGain at 260", x.duckGain(0, 260), 900);
        Check.same("duckGain at 400", x.duckGain(0, 400), 500);
        Check.same("trackValue", x.trackValue(0, 300), 700);
    }

    private static void limiterAndLoop() {
        ClipMixer x = new ClipMixer();
        Check.same("setSource", x.setSource(0, 0, 10000, 1, 4000), 4000);
        Check.same("addClip", x.addClip(0, 0, 0, 0, 100, 2000), 0);
        Check.same("setMaster", x.setMaster(2000), 1000);
        Check.same("render", x.render(5), 5);
        Check.same("the greatest left sample", x.meter(1), 32767);
        Check.same("clipped samples", x.meter(3), 10);
        Check.same("setLoop", x.setLoop(10, 12), 0);
        Check.same("seek", x.seek(11), 5);
        Check.same("render around the loop", x.render(1), 10);
        Check.fails("mix behind the timeline", x, Edge.ARGUMENT, () -> x.mix(4000, true));
    }
}

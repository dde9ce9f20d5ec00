import java.io.File;
import java.lang.reflect.Field;
import java.lang.reflect.Method;
import java.lang.reflect.Modifier;
import java.nio.file.Files;
import java.nio.file.Path;
import java.util.ArrayList;
import java.util.List;

/** README.md: its example answers what it says, and it names each method and constant, and each test. */
public final class ReadmeTest {
    private static final String TESTS = "src/test/java";
    private static final List<String> ANSWERS = new ArrayList<>();

    public static void main(String[] args) throws Exception {
        String text = Files.readString(Path.of("README.md"));
        example();
        comparesWith(lines(text.substring(text.indexOf("```java") + 7, text.lastIndexOf("```"))));
        names(text);
        Check.end();
    }

    // The lines of README.md, each answer noted behind its line.
    private static void example() {
        ClipMixer mixer = new ClipMixer();
        mixer.setSource(0, ClipMixer.CONSTANT, 1000, 1, 4000);
        mixer.setSource(1, ClipMixer.SQUARE, 4000, 10, 4000);
        int music = mixer.addClip(0, 0, 100, 0, 600, 1000);
        note("music", music);
        int voice = mixer.addClip(1, 1, 300, 0, 200, 500);
        note("voice", voice);
        mixer.setFades(music, 50, 50, ClipMixer.LINEAR);
        mixer.duck(0, 1, 1500, 300, 400, 100);
        mixer.setTrack(1, 1000, -30, false, false);
        int gain = mixer.duckGain(0, 400);
        note("gain", gain);
        int left = mixer.mix(400, false);
        note("left", left);
        int right = mixer.mix(400, true);
        note("right", right);
        int playhead = mixer.render(500);
        note("playhead", playhead);
        long loudest = mixer.meter(1);
        note("loudest", loudest);
        int second = mixer.splitClip(music, 400);
        note("second", second);
        int track = mixer.clip(2, 0);
        note("track", track);
        int states = mixer.undo();
        note("states", states);
        int clips = mixer.clips();
        note("clips", clips);
    }

    private static void note(String name, long answer) {
        ANSWERS.add(name + " " + answer);
    }

    private static List<String> lines(String text) {
        List<String> found = new ArrayList<>();
        for (String line : text.split("\n")) {
            String bare = line.trim();
            if (!bare.isEmpty() && !bare.startsWith("//")) {
                found.add(bare);
            }
        }
        return found;
    }

    private static void comparesWith(List<String> example) throws Exception {
        String own = Files.readString(Path.of(TESTS, "ReadmeTest.java"));
        int from = own.indexOf("private static void example()");
        List<String> answers = new ArrayList<>();
        for (String line : example) {
            String code = line.contains("//") ? line.substring(0, line.indexOf("//")).trim() : line;
            int at = own.indexOf("        " + code + "\n", from);
            Check.yes("the test runs the line " + code + " of README.md in its turn", at >= from);
            from = Math.max(at, from);
            if (line.contains("//")) {
                answers.add(code.split(" ")[1] + " " + line.substring(line.indexOf("//") + 2).trim());
            }
        }
        Check.same("the answers that README.md tells", answers.toString(), ANSWERS.toString());
    }

    private static void names(String text) {
        for (Method m : ClipMixer.class.getDeclaredMethods()) {
            Check.yes("README.md names " + m.getName(),
                    !Modifier.isPublic(m.getModifiers()) || text.contains("`" + m.getName() + "`"));
        }
        for (Field f : ClipMixer.class.getDeclaredFields()) {
            Check.yes("README.md names " + f.getName(),
                    !Modifier.isPublic(f.getModifiers()) || text.contains("`" + f.getName() + "`"));
        }
        String[] files = new File(TESTS).list((directory, name) -> name.endsWith("Test.java"));
        Check.yes("there are tests", files != null && files.length > 0);
        for (String file : files == null ? new String[0] : files) {
            String name = file.substring(0, file.length() - 5);
            Check.yes("README.md names " + name, text.contains("`" + name + "`"));
        }
    }
}

import java.lang.reflect.Constructor;
import java.lang.reflect.Field;
import java.lang.reflect.Method;
import java.lang.reflect.Modifier;
import java.nio.file.Files;
import java.nio.file.Path;
import java.util.Set;
import java.util.TreeSet;

/** The public face (and no more of it), the constants, and what a look at the source can tell of LANGUAGE.md. */
public final class FaceTest {
    private static final Set<String> METHODS = Set.of(
            "int setSource(int,int,int,int,int)", "int sample(int,int)", "int addClip(int,int,int,int,int,int)",
            "int setFades(int,int,int,int)", "int moveClip(int,int)", "int trimClip(int,int,int)",
            "int splitClip(int,int)", "int removeClip(int)", "int deleteTime(int,int,int)", "int clips()",
            "int clip(int,int)", "int clipValue(int,int)", "int setTrack(int,int,int,boolean,boolean)",
            "int setPoint(int,int,int,boolean)", "int removePoint(int,int)", "int automation(int,int)",
            "int duck(int,int,int,int,int,int)", "int endDuck(int)", "int duckGain(int,int)",
            "int trackValue(int,int)", "boolean isAudible(int)", "int setMaster(int)", "int mix(int,boolean)",
            "int setLoop(int,int)", "int seek(int)", "int render(int)", "long meter(int)", "long clearMeters()",
            "int length()", "int undo()", "long digest()");
    private static final Set<String> CONSTANTS = Set.of("NONE=-1", "CONSTANT=0", "SQUARE=1", "SAW=2", "NOISE=3",
            "LINEAR=0", "SQUARE_CURVE=1");
    private static final String[] RULED_OUT = {"package ", "::", "synchronized", "assert ", "finally", "static {",
        "Exact(", "Thread", "Random", "System.in", "System.out", "System.err", "System.nano", "System.current",
        "java.io", "java.nio", "java.net", "java.time", "ArrayIndexOutOfBounds", "NullPointer", "ClassCast",
        "NegativeArraySize", "ArrayStore", "Throwable", "Error"};
    private static final int CLASSES = 12;
    private static final int FIELDS = 20;
    private static final int PARAMETERS = 7;

    public static void main(String[] args) throws Exception {
        face();
        source();
        Check.end();
    }

    private static void face() throws Exception {
        Set<String> methods = new TreeSet<>();
        for (Method m : ClipMixer.class.getDeclaredMethods()) {
            if (!Modifier.isPrivate(m.getModifiers()) && !m.isSynthetic()) {
                Check.yes(m + " is public and of the object",
                        Modifier.isPublic(m.getModifiers()) && !Modifier.isStatic(m.getModifiers()));
                methods.add(signature(m));
            }
        }
        Check.yes("the methods are the document's: " + methods, methods.equals(METHODS));
        Set<String> constants = new TreeSet<>();
        for (Field f : ClipMixer.class.getDeclaredFields()) {
            if (!Modifier.isPrivate(f.getModifiers())) {
                constants.add(f.getName() + "=" + f.getInt(null));
            }
            Check.yes(f + " is final if it is static",
                    !Modifier.isStatic(f.getModifiers()) || Modifier.isFinal(f.getModifiers()));
        }
        Check.yes("the constants are the document's: " + constants, constants.equals(CONSTANTS));
        Constructor<?>[] made = ClipMixer.class.getDeclaredConstructors();
        Check.yes("there is one constructor, public and without parameters", made.length == 1
                && Modifier.isPublic(made[0].getModifiers()) && made[0].getParameterCount() == 0);
        Check.yes("the class is public and final", Modifier.isPublic(ClipMixer.class.getModifiers())
                && Modifier.isFinal(ClipMixer.class.getModifiers()));
    }

    private static String signature(Method m) {
        StringBuilder text = new StringBuilder(m.getReturnType().getName()).append(' ').append(m.getName()).append('(');
        String between = "";
        for (Class<?> c : m.getParameterTypes()) {
            text.append(between).append(c.getName());
            between = ",";
        }
        return text.append(')').toString();
    }

    private static void source() throws Exception {
        String text = Files.readString(Path.of("src/main/java/ClipMixer.java"));
        String code = text.replaceAll("(?s)/\\*.*?\\*/", "").replaceAll("//[^\n]*", "");
        for (String word : RULED_OUT) {
            Check.yes("the source does without '" + word + "'", !code.contains(word));
        }
        Class<?>[] inside = ClipMixer.class.getDeclaredClasses();
        Check.yes("there are at most some twelve classes", inside.length < CLASSES);
        sizes(ClipMixer.class);
        for (Class<?> c : inside) {
            Check.yes(c + " is not for others", !Modifier.isPublic(c.getModifiers())
                    && !Modifier.isProtected(c.getModifiers()));
            sizes(c);
        }
    }

    private static void sizes(Class<?> c) {
        int fields = 0;
        for (Field f : c.getDeclaredFields()) {
            fields += Modifier.isStatic(f.getModifiers()) ? 0 : 1;
        }
        Check.yes(c + " has at most some twenty fields", fields <= FIELDS);
        for (Method m : c.getDeclaredMethods()) {
            Check.yes(m + " takes at most seven parameters", m.getParameterCount() <= PARAMETERS);
            Check.yes(m + " bears no name of the face if it is private", !Modifier.isPrivate(m.getModifiers())
                    || METHODS.stream().noneMatch(s -> s.contains(" " + m.getName() + "(")));
        }
    }
}

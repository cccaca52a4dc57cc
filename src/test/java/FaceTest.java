import java.lang.reflect.Constructor;
import java.lang.reflect.Field;
import java.lang.reflect.Method;
import java.lang.reflect.Modifier;
import java.util.Set;
import java.util.TreeSet;

/** The public face of the document, and nothing beside it. */
public final class FaceTest {
    private static final Set<String> METHODS = Set.of(
        "public boolean TeachingKernel.code(int,int,int)",
        "public int TeachingKernel.spawn(int,int)",
        "public int TeachingKernel.run(int)",
        "public int TeachingKernel.state(int)",
        "public int TeachingKernel.spot(int)",
        "public int TeachingKernel.parent(int)",
        "public int TeachingKernel.register(int,int)",
        "public int TeachingKernel.word(int,int)",
        "public int TeachingKernel.descriptor(int,int)",
        "public int TeachingKernel.pipe(int)",
        "public long TeachingKernel.executed()",
        "public int TeachingKernel.printed()",
        "public int TeachingKernel.output(int)",
        "public boolean TeachingKernel.kill(int,int)",
        "public boolean TeachingKernel.level(int)");
    private static final Set<String> CONSTANTS = Set.of(
        "public static final int TeachingKernel.BAD",
        "public static final int TeachingKernel.FREE",
        "public static final int TeachingKernel.READY",
        "public static final int TeachingKernel.WAITING",
        "public static final int TeachingKernel.ENDED");

    public static void main(String[] args) {
        Class<?> face = TeachingKernel.class;
        Checks.due("public final class", face.getModifiers(), Modifier.PUBLIC | Modifier.FINAL);
        Set<String> methods = new TreeSet<>();
        Set<String> publicNames = new TreeSet<>();
        for (Method method : face.getDeclaredMethods()) {
            if (!Modifier.isPrivate(method.getModifiers())) {
                methods.add(method.toString());
                publicNames.add(method.getName());
            }
        }
        for (Method method : face.getDeclaredMethods()) {
            if (Modifier.isPrivate(method.getModifiers())) {
                Checks.due("a public name for " + method, publicNames.contains(method.getName()), false);
                Checks.due("parameters of " + method + " above 7", method.getParameterCount() > 7, false);
            }
        }
        same("methods", methods, METHODS);
        Set<String> constants = new TreeSet<>();
        for (Field field : face.getDeclaredFields()) {
            if (!Modifier.isPrivate(field.getModifiers())) {
                constants.add(field.toString());
            }
        }
        same("constants", constants, CONSTANTS);
        Constructor<?>[] constructors = face.getDeclaredConstructors();
        Checks.due("constructors", constructors.length, 1);
        Checks.due("public constructor", constructors[0].getModifiers(), Modifier.PUBLIC);
        Checks.due("parameters of the constructor", constructors[0].getParameterCount(), 0);
        Checks.due("BAD", TeachingKernel.BAD, -1000);
        Checks.due("FREE", TeachingKernel.FREE, 0);
        Checks.due("READY", TeachingKernel.READY, 1);
        Checks.due("WAITING", TeachingKernel.WAITING, 2);
        Checks.due("ENDED", TeachingKernel.ENDED, 3);
        Checks.close();
    }

    private static void same(String what, Set<String> got, Set<String> want) {
        for (String member : want) {
            Checks.due(what + " have " + member, got.contains(member), true);
        }
        Checks.due("number of " + what, got.size(), want.size());
    }
}

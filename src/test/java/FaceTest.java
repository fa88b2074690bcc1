import java.io.IOException;
import java.lang.reflect.Constructor;
import java.lang.reflect.Field;
import java.lang.reflect.Method;
import java.lang.reflect.Modifier;
import java.nio.file.Files;
import java.nio.file.Path;
import java.util.HashSet;
import java.util.Set;
import java.util.TreeSet;
import java.util.regex.Pattern;

/** The public face as the document has it, and those rules of LANGUAGE.md that can be seen from outside. */
public final class FaceTest {
    private static final String SOURCE = "src/main/java/LeftNumbers.java";
    private static final String[] FACE = {
        "int prime(int)", "int ratio(int,int)", "int number(int,long,int)", "int shadow(int,int)",
        "int of(int,int,int)", "int kind(int)", "int lift(int)", "int sure(int)", "int figure(int,int)",
        "long told(int)", "int part(int,int)", "int near(int,int,int)", "int guess(int,int)", "int round(int,int)",
        "int coefficient(int,int)", "int at(int)", "int firsts(int)", "int root(int,int)", "int more(int,int)",
        "int square(int)", "int unit(int)", "int undo()", "int count(int)",
    };
    private static final String[] CONSTANTS = {"NONE", "BAD", "KIND", "ZERO", "LITTLE", "FULL", "BEYOND"};
    private static final String[] RULED_OUT = {
        "\\bthrow\\b", "\\btry\\b", "\\bcatch\\b", "\\bsynchronized\\b", "\\bassert\\b", "\\bimport\\b",
        "\\bpackage\\b", "->", "::", "Exact\\b", "multiplyHigh", "\\bdouble\\b", "\\bstatic \\{",
    };
    private static final Check CHECK = new Check();

    public static void main(String[] args) throws IOException {
        Class<LeftNumbers> type = LeftNumbers.class;
        CHECK.holds("public final", Modifier.isPublic(type.getModifiers()) && Modifier.isFinal(type.getModifiers()));
        methods(type);
        constants(type);
        insides(type);
        source(Files.readString(Path.of(SOURCE)));
        CHECK.end();
    }

    private static void methods(Class<?> type) {
        Set<String> wanted = new TreeSet<>(Set.of(FACE));
        Set<String> names = new HashSet<>();
        for (Method method : type.getDeclaredMethods()) {
            if (!Modifier.isPrivate(method.getModifiers())) {
                CHECK.holds(method + " is of the face", wanted.remove(told(method)));
                names.add(method.getName());
            }
        }
        CHECK.holds("missing: " + wanted, wanted.isEmpty());
        for (Method method : type.getDeclaredMethods()) {
            boolean isPrivate = Modifier.isPrivate(method.getModifiers());
            CHECK.holds(method + " has a name of its own", !isPrivate || !names.contains(method.getName()));
        }
        Constructor<?>[] all = type.getDeclaredConstructors();
        CHECK.due("constructors", all.length, 1);
        CHECK.holds("constructor", Modifier.isPublic(all[0].getModifiers()) && all[0].getParameterCount() == 0);
    }

    private static String told(Method method) {
        StringBuilder text = new StringBuilder(method.getReturnType() + " " + method.getName() + "(");
        String comma = "";
        for (Class<?> parameter : method.getParameterTypes()) {
            text.append(comma).append(parameter);
            comma = ",";
        }
        return text.append(")").toString();
    }

    private static void constants(Class<?> type) {
        Set<String> wanted = new TreeSet<>(Set.of(CONSTANTS));
        for (Field field : type.getDeclaredFields()) {
            int modifiers = field.getModifiers();
            if (!Modifier.isPrivate(modifiers)) {
                CHECK.holds(field + " is of the face", wanted.remove(field.getName()));
                CHECK.holds(field + " is a constant", Modifier.isStatic(modifiers) && Modifier.isPublic(modifiers));
            }
            CHECK.holds(field + " is final", !Modifier.isStatic(modifiers) || Modifier.isFinal(modifiers));
        }
        CHECK.holds("missing: " + wanted, wanted.isEmpty());
        int[] values = {LeftNumbers.NONE, LeftNumbers.BAD, LeftNumbers.KIND, LeftNumbers.ZERO,
            LeftNumbers.LITTLE, LeftNumbers.FULL, LeftNumbers.BEYOND};
        for (int i = 0; i < values.length; i++) {
            CHECK.due(CONSTANTS[i], values[i], -1 - i);
        }
    }

    private static void insides(Class<?> type) {
        Class<?>[] inside = type.getDeclaredClasses();
        CHECK.holds("at most twelve classes", inside.length <= 11);
        for (Class<?> each : inside) {
            CHECK.holds(each + " is static", Modifier.isStatic(each.getModifiers()));
            for (Method method : each.getDeclaredMethods()) {
                CHECK.holds(method + " takes at most seven", method.getParameterCount() <= 7);
            }
        }
    }

    private static void source(String text) {
        String bare = text.replaceAll("(?s)/\\*.*?\\*/", "").replaceAll("//[^\n]*", "");
        for (String word : RULED_OUT) {
            CHECK.holds("no " + word, !Pattern.compile(word).matcher(bare).find());
        }
    }
}

import java.io.IOException;
import java.lang.reflect.Constructor;
import java.lang.reflect.Field;
import java.lang.reflect.Method;
import java.lang.reflect.Modifier;
import java.nio.file.Files;
import java.nio.file.Path;
import java.util.Set;
import java.util.TreeSet;
import java.util.regex.Pattern;

/** The public face, and the rules of LANGUAGE.md that can be seen by reflection or in the text. */
public final class FaceTest {
    private static final String STATE = " throws IllegalStateException";
    private static final String BOTH = " throws IllegalArgumentException, IllegalStateException";
    private static final Set<String> FACE = Set.of(
            "void key(int)", "int fork(int)" + STATE, "int end(int, int)" + STATE, "int pipe(int)" + STATE,
            "int copy(int, int, int)" + STATE, "int close(int, int)" + STATE, "int read(int, int, int)" + BOTH,
            "int write(int, int, long, int)" + BOTH, "int reap(int, boolean)" + STATE, "int pause(int)" + STATE,
            "int signal(int, int, int)" + BOTH, "int action(int, int, int)" + BOTH, "int mask(int, int)" + STATE,
            "int group(int, int, int)" + STATE, "int foreground(int, int)" + STATE, "int process(int, int)",
            "int taken(int, int)", "int heard(int, int)", "int terminal(int)");
    /** Words that rules 2 to 6 and 13 keep out of the program; an arrow is a lambda's, or behind a case. */
    private static final String[] KEPT_OUT = {"::", "\\bpackage\\b", "\\bfinally\\b", "\\bsynchronized\\b", "\\bassert\\b",
        "\\bstatic \\{", "\\bThread\\b", "\\bSystem\\.(?!arraycopy)", "\\bObject\\b", "Exact\\(",
        "(?m)^(?!\\s*(case|default)\\b).*->",
        "\\bimport (?!java\\.util\\.(ArrayList|List|Arrays|Iterator|NoSuchElementException);)"};
    private static final Pattern COMMENT = Pattern.compile("(?s)/\\*.*?\\*/|//[^\\n]*");

    public static void main(String[] args) throws IOException {
        Class<?> face = JobLayer.class;
        hold("public and final", face.getModifiers() == (Modifier.PUBLIC | Modifier.FINAL));
        Constructor<?>[] constructors = face.getDeclaredConstructors();
        hold("one constructor", constructors.length == 1 && Modifier.isPublic(constructors[0].getModifiers())
                && constructors[0].getParameterCount() == 0);
        holdMethods(face);
        holdFields(face);
        for (Class<?> inside : face.getDeclaredClasses()) {
            hold(inside + " is not public", !Modifier.isPublic(inside.getModifiers())
                    && !Modifier.isProtected(inside.getModifiers()));
            holdFields(inside);
        }
        String text = COMMENT.matcher(Files.readString(Path.of("src/main/java/JobLayer.java"))).replaceAll(" ");
        for (String word : KEPT_OUT) {
            hold("no " + word, !Pattern.compile(word).matcher(text).find());
        }
        Check.finish();
    }

    private static void hold(String rule, boolean holds) {
        Check.due(rule, holds ? 1 : 0, 1);
    }

    private static void holdMethods(Class<?> face) {
        Set<String> open = new TreeSet<>();
        Set<String> openNames = new TreeSet<>();
        for (Method m : face.getDeclaredMethods()) {
            if (!Modifier.isPrivate(m.getModifiers())) {
                hold(m + " is public", m.getModifiers() == Modifier.PUBLIC);
                open.add(signature(m));
                openNames.add(m.getName());
            }
        }
        Check.due("the face", open.toString(), new TreeSet<>(FACE).toString());
        holdPrivateNames(face, openNames);
        for (Class<?> inside : face.getDeclaredClasses()) {
            holdPrivateNames(inside, openNames);
        }
    }

    private static void holdPrivateNames(Class<?> owner, Set<String> openNames) {
        for (Method m : owner.getDeclaredMethods()) {
            hold(m + " bears no public name", !Modifier.isPrivate(m.getModifiers()) || !openNames.contains(m.getName()));
        }
    }

    private static String signature(Method m) {
        StringBuilder text = new StringBuilder();
        text.append(m.getReturnType().getSimpleName()).append(' ').append(m.getName()).append('(');
        for (int i = 0; i < m.getParameterCount(); i++) {
            text.append(i == 0 ? "" : ", ").append(m.getParameterTypes()[i].getSimpleName());
        }
        text.append(')');
        Class<?>[] thrown = m.getExceptionTypes();
        for (int i = 0; i < thrown.length; i++) {
            text.append(i == 0 ? " throws " : ", ").append(thrown[i].getSimpleName());
        }
        return text.toString();
    }

    private static void holdFields(Class<?> owner) {
        int ofObjects = 0;
        for (Field f : owner.getDeclaredFields()) {
            if (!Modifier.isStatic(f.getModifiers())) {
                ofObjects++;
            } else if (!owner.isEnum()) {
                hold(f + " is a constant", Modifier.isFinal(f.getModifiers()) && isConstantType(f.getType()));
            }
            hold(f + " is private", owner != JobLayer.class || Modifier.isPrivate(f.getModifiers()));
        }
        hold(owner + " has some twenty fields at most", ofObjects <= 24);
    }

    private static boolean isConstantType(Class<?> type) {
        return type.isPrimitive() || type == String.class || type.isArray() && type.getComponentType().isPrimitive();
    }
}

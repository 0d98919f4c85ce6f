import java.io.IOException;
import java.lang.reflect.Constructor;
import java.lang.reflect.Field;
import java.lang.reflect.Member;
import java.lang.reflect.Method;
import java.lang.reflect.Modifier;
import java.nio.file.Files;
import java.nio.file.Path;
import java.util.Arrays;
import java.util.HashSet;
import java.util.List;
import java.util.Set;
import java.util.TreeSet;

/** The public face of the document and those rules of LANGUAGE.md that are easy to see. */
public final class FaceTest {
    private static final Path SOURCE = Path.of("src/main/java/GraphCanon.java");

    private static final Set<String> FACE = new TreeSet<>(List.of(
            "public static final int GraphCanon.BAD_GRAPH",
            "public static final int GraphCanon.BAD_VERTEX",
            "public static final int GraphCanon.BAD_COLOUR",
            "public GraphCanon()",
            "public int GraphCanon.edge(int,int,int,boolean)",
            "public int GraphCanon.colour(int,int,int)",
            "public int GraphCanon.exchange(int,int,int)",
            "public int GraphCanon.complement(int)",
            "public void GraphCanon.copy()",
            "public int GraphCanon.code(int)",
            "public int GraphCanon.canonical(int)",
            "public int GraphCanon.symmetries(int)",
            "public int GraphCanon.orbit(int,int)",
            "public int GraphCanon.orbits(int)",
            "public int GraphCanon.variants(int)",
            "public boolean GraphCanon.alike()",
            "public boolean GraphCanon.alikeWithoutColours()"));

    private static final List<String> FORBIDDEN = List.of(
            "package", "import", "float", "double", "String", "Math", "Integer", "System", "Arrays", "Object",
            "null", "throw", "throws", "try", "catch", "synchronized", "assert", "instanceof", "interface",
            "enum", "record", "super", "static {", "->", "::");

    private static boolean seen(Member member) {
        return !Modifier.isPrivate(member.getModifiers());
    }

    private static void face() {
        Set<String> found = new TreeSet<>();
        for (Field field : GraphCanon.class.getDeclaredFields()) {
            if (seen(field)) {
                found.add(field.toString());
            }
        }
        for (Method method : GraphCanon.class.getDeclaredMethods()) {
            if (seen(method)) {
                found.add(method.toString());
            }
        }
        for (Constructor<?> constructor : GraphCanon.class.getDeclaredConstructors()) {
            found.add(constructor.toString());
        }
        Check.due("the face", found, FACE);
        Check.due("the class's modifiers", Modifier.toString(GraphCanon.class.getModifiers()), "public final");
        Check.due("nested classes", GraphCanon.class.getDeclaredClasses().length, 0);
        Check.due("BAD_GRAPH", GraphCanon.BAD_GRAPH, -1);
        Check.due("BAD_VERTEX", GraphCanon.BAD_VERTEX, -2);
        Check.due("BAD_COLOUR", GraphCanon.BAD_COLOUR, -3);
    }

    private static void names() {
        Set<String> names = new HashSet<>();
        for (Method method : GraphCanon.class.getDeclaredMethods()) {
            Check.due(method + ": first of its name", names.add(method.getName()), true);
            Check.due(method + ": seven parameters at most", method.getParameterCount() <= 7, true);
            Check.due(method + ": answers an array", method.getReturnType().isArray(), false);
        }
    }

    private static void fields() {
        for (Field field : GraphCanon.class.getDeclaredFields()) {
            Class<?> type = field.getType();
            Class<?> plain = type.isArray() ? type.getComponentType() : type;
            Check.due(field + ": of a number type", plain.isPrimitive(), true);
            if (Modifier.isStatic(field.getModifiers())) {
                boolean constant = Modifier.isFinal(field.getModifiers()) && (type == int.class || type == long.class);
                Check.due(field + ": a constant", constant, true);
            }
        }
    }

    private static String withoutComments(String source) {
        return source.replaceAll("(?s)/\\*.*?\\*/", " ").replaceAll("//[^\n]*", " ");
    }

    private static void words() throws IOException {
        String source = withoutComments(Files.readString(SOURCE));
        Set<String> words = new HashSet<>(Arrays.asList(source.split("\\W+")));
        for (String word : FORBIDDEN) {
            boolean found = word.matches("\\w+") ? words.contains(word) : source.contains(word);
            Check.due("'" + word + "' in the source", found, false);
        }
    }

    public static void main(String[] args) throws IOException {
        face();
        names();
        fields();
        words();
        Check.end();
    }
}

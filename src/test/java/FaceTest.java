import java.io.IOException;
import java.lang.reflect.Constructor;
import java.lang.reflect.Field;
import java.lang.reflect.Method;
import java.lang.reflect.Modifier;
import java.nio.file.Files;
import java.nio.file.Path;
import java.util.HashSet;
import java.util.List;
import java.util.Set;
import java.util.TreeSet;
import java.util.regex.Matcher;
import java.util.regex.Pattern;

/** The document's public face, and the rules of LANGUAGE.md that can be seen from outside. */
public final class FaceTest {
    private static final List<String> FACE = List.of("int edge 3", "int drop 1", "int anew 0", "int of 2",
        "int degree 2", "int type 1", "int clear 0", "int reads 1", "int about 2", "int accepts 3", "int words 2",
        "int beyond 2", "int answers 3", "int ends 2", "int pairs 1", "int far 3", "int count 4", "int route 5",
        "int bridge 3", "int stand 1", "int standing 1", "int kept 2", "int draw 2", "int told 1", "long digest 0");

    public static void main(String[] args) throws IOException {
        constants();
        methods();
        nested();
        String text = Files.readString(Path.of("src/main/java/SpeltRoutes.java"));
        words(text.replaceAll("(?s)/\\*.*?\\*/|//[^\n]*", " ").replaceAll("'.'", "' '"));
        Due.end();
    }

    private static void constants() {
        Due.is("NONE", SpeltRoutes.NONE, -1);
        Due.is("BAD", SpeltRoutes.BAD, -2);
        Due.is("NO", SpeltRoutes.NO, -3);
        Due.is("FULL", SpeltRoutes.FULL, -4);
        Set<String> names = new TreeSet<>();
        for (Field f : SpeltRoutes.class.getDeclaredFields()) {
            if (!Modifier.isPrivate(f.getModifiers())) {
                names.add(f.getName());
            }
        }
        Due.holds("fields seen: " + names, names.equals(Set.of("NONE", "BAD", "NO", "FULL")));
    }

    private static void methods() {
        Due.holds("public and final", Modifier.toString(SpeltRoutes.class.getModifiers()).equals("public final"));
        Constructor<?>[] made = SpeltRoutes.class.getDeclaredConstructors();
        Due.holds("one constructor", made.length == 1 && made[0].getParameterCount() == 0
                && Modifier.isPublic(made[0].getModifiers()));
        Set<String> face = new HashSet<>();
        Set<String> hidden = new HashSet<>();
        for (Method m : SpeltRoutes.class.getDeclaredMethods()) {
            if (Modifier.isPrivate(m.getModifiers())) {
                hidden.add(m.getName());
            } else {
                face.add(m.getReturnType() + " " + m.getName() + " " + m.getParameterCount());
            }
        }
        Due.holds("the face: " + face, face.equals(new HashSet<>(FACE)));
        for (String row : FACE) {
            Due.holds("hidden " + row, !hidden.contains(row.split(" ")[1]));
        }
    }

    private static void nested() {
        Class<?>[] all = SpeltRoutes.class.getDeclaredClasses();
        Due.holds("twelve classes at most", all.length + 1 <= 12);
        Set<String> names = new HashSet<>();
        for (String row : FACE) {
            names.add(row.split(" ")[1]);
        }
        for (Class<?> c : all) {
            Due.holds(c + " is static", Modifier.isStatic(c.getModifiers()));
            for (Method m : c.getDeclaredMethods()) {
                Due.holds(m + " has a name of its own", !names.contains(m.getName()));
                Due.holds(m + " takes seven at most", m.getParameterCount() <= 7);
            }
            fields(c);
        }
        fields(SpeltRoutes.class);
    }

    private static void fields(Class<?> c) {
        int many = 0;
        for (Field f : c.getDeclaredFields()) {
            boolean constant = Modifier.isStatic(f.getModifiers());
            Due.holds(f + " is final, if static", !constant || Modifier.isFinal(f.getModifiers()));
            many += constant ? 0 : 1;
        }
        Due.holds(c + " has twenty fields at most: " + many, many <= 20);
    }

    private static void words(String code) {
        for (String word : List.of("throw", "throws", "try", "catch", "finally", "synchronized", "assert", "while",
                "Random", "System\\.(?!arraycopy)", "Thread", "Object", "protected", "package", "native",
                "volatile", "static\\s*\\{", "->", "::", "\\w+Exact")) {
            Matcher m = Pattern.compile(word.matches("\\w+") ? "\\b" + word + "\\b" : word).matcher(code);
            Due.holds("no " + word, !m.find());
        }
        Matcher imports = Pattern.compile("import ([^;]*);").matcher(code);
        while (imports.find()) {
            Due.holds("import " + imports.group(1), imports.group(1).equals("java.util.Arrays"));
        }
        int length = 0;
        int longest = 0;
        for (String line : code.split("\n")) {
            length = line.matches(" {4,8}\\S.*\\{") && !line.contains("class") ? 0 : length + 1;
            longest = line.matches(" {4,8}\\}") ? Math.max(longest, length) : longest;
        }
        Due.holds("methods of sixty lines at most: " + longest, longest <= 60);
    }
}

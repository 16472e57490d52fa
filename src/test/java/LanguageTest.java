import java.io.IOException;
import java.lang.reflect.Constructor;
import java.lang.reflect.Field;
import java.lang.reflect.Method;
import java.lang.reflect.Modifier;
import java.nio.file.Files;
import java.nio.file.Path;
import java.util.Arrays;
import java.util.HashSet;
import java.util.Set;
import java.util.TreeSet;
import java.util.regex.Matcher;
import java.util.regex.Pattern;

/** The face of the class, and what of ../shared/LANGUAGE.md can be seen from outside. */
final class LanguageTest {
    private static final String[] FACE = {
        "int type(long, int)", "int clear()", "int town()", "int place(int, int)", "int seeker(int, int)",
        "int habit(int, int)", "int puts(int)", "int looks(int, int)", "int week()", "int now(int)", "int lot(int)",
        "int lies(int)", "int longest()", "long odds(int, int, int)", "int lots(int, int)", "int sweep(int)",
        "int order(int)", "int saw(int, int, int)", "int forget()", "int could(int)", "int mark(int, int)",
        "int keep(int)", "int back(int)", "int count(int)", "long trace()"};
    private static final String[] RULED_OUT = {"throw", "throws", "try", "catch", "finally", "synchronized", "assert",
        "protected", "var", "Exception", "Error", "Object", "System\\.out", "->", "::", "@", "equals", "hashCode",
        "toString", "volatile", "transient", "native", "double", "float"};

    private LanguageTest() {
    }

    public static void main(String[] args) throws IOException {
        checkFace();
        checkClasses();
        checkSource(Files.readString(Path.of("src/main/java/FindersHide.java")));
        Check.finish("LanguageTest");
    }

    private static void checkFace() {
        Class<?> c = FindersHide.class;
        Check.due("public and final", c.getModifiers(), Modifier.PUBLIC | Modifier.FINAL);
        Set<String> open = new TreeSet<>();
        Set<String> names = new HashSet<>();
        for (Method m : c.getDeclaredMethods()) {
            if (!Modifier.isPrivate(m.getModifiers())) {
                Check.due(m.getName() + " is public alone", m.getModifiers(), Modifier.PUBLIC);
                String types = Arrays.toString(m.getParameterTypes());
                open.add(m.getReturnType() + " " + m.getName() + "(" + types.substring(1, types.length() - 1) + ")");
                names.add(m.getName());
            }
        }
        same("methods", open, new TreeSet<>(Arrays.asList(FACE)));
        for (Method m : c.getDeclaredMethods()) {
            Check.due("private, named as a public one: " + m.getName(),
                Modifier.isPrivate(m.getModifiers()) && names.contains(m.getName()) ? 1 : 0, 0);
        }
        Constructor<?>[] made = c.getDeclaredConstructors();
        Check.due("constructors", made.length, 1);
        Check.due("constructor is public", made[0].getModifiers(), Modifier.PUBLIC);
        Check.due("constructor's parameters", made[0].getParameterCount(), 0);
        Set<String> fields = new TreeSet<>();
        for (Field f : c.getDeclaredFields()) {
            if (!Modifier.isPrivate(f.getModifiers())) {
                Check.due(f.getName(), f.getModifiers(), Modifier.PUBLIC | Modifier.STATIC | Modifier.FINAL);
                fields.add(f.getType() + " " + f.getName());
            }
        }
        same("constants", fields, new TreeSet<>(Arrays.asList("int BAD", "int STATE", "int FULL", "int NONE", "int NO")));
        Check.due("BAD", FindersHide.BAD, -1);
        Check.due("STATE", FindersHide.STATE, -2);
        Check.due("FULL", FindersHide.FULL, -3);
        Check.due("NONE", FindersHide.NONE, -9);
        Check.due("NO", FindersHide.NO, -1000000);
    }

    private static void same(String what, Set<String> got, Set<String> want) {
        Check.due(what + ": " + got, got.equals(want) ? 1 : 0, 1);
    }

    private static void checkClasses() {
        Class<?>[] inside = FindersHide.class.getDeclaredClasses();
        Check.due("at most twelve classes", inside.length + 1 <= 12 ? 1 : 0, 1);
        String face = String.join("\n", FACE);
        for (Class<?> c : inside) {
            for (Method m : c.getDeclaredMethods()) {
                Check.due("named as a public one: " + m, face.contains(" " + m.getName() + "(") ? 1 : 0, 0);
            }
        }
        checkFields(FindersHide.class);
        for (Class<?> c : inside) {
            boolean closed = !Modifier.isPublic(c.getModifiers()) && !Modifier.isProtected(c.getModifiers());
            Check.due(c.getName() + " is static and closed", closed && Modifier.isStatic(c.getModifiers()) ? 1 : 0, 1);
            checkFields(c);
        }
    }

    private static void checkFields(Class<?> c) {
        int own = 0;
        for (Field f : c.getDeclaredFields()) {
            if (Modifier.isStatic(f.getModifiers())) {
                Check.due(f + " is final", Modifier.isFinal(f.getModifiers()) ? 1 : 0, 1);
            } else {
                own++;
            }
        }
        Check.due(c.getName() + " has at most twenty fields", own <= 20 ? 1 : 0, 1);
        for (Method m : c.getDeclaredMethods()) {
            Check.due(m + " takes at most seven", m.getParameterCount() <= 7 ? 1 : 0, 1);
        }
    }

    private static void checkSource(String source) {
        for (int i = 0; i < source.length(); i++) {
            Check.due("sign at " + i, source.charAt(i) < 127 ? 1 : 0, 1);
        }
        String code = source.replaceAll("(?s)/\\*.*?\\*/", "").replaceAll("//[^\n]*", "");
        for (String word : RULED_OUT) {
            String edge = Character.isLetter(word.charAt(0)) ? "\\b" : "";
            Matcher m = Pattern.compile(edge + word + edge).matcher(code);
            Check.due("ruled out: " + word, m.find() ? 1 : 0, 0);
        }
        Matcher imports = Pattern.compile("import ([^;]+);").matcher(code);
        while (imports.find()) {
            Check.due("import " + imports.group(1), imports.group(1).equals("java.util.Arrays") ? 1 : 0, 1);
        }
        checkMadeOnce(code);
    }

    /** All calls of a run live in one room, so what is made is made with the object: in fields and its constructor. */
    private static void checkMadeOnce(String code) {
        int from = code.indexOf("    public FindersHide() {");
        int to = code.indexOf("\n    }\n", from);
        Check.due("the constructor is there", from >= 0 && to > from ? 1 : 0, 1);
        Pattern makes = Pattern.compile("\\bnew\\b|\\.clone\\(|Arrays\\.copyOf");
        // A field of the class, or of a class inside it; in a method stands neither word so far to the left.
        Pattern field = Pattern.compile("    (private|    private|    final) .* = new [^;]*;");
        String rest = code.substring(0, Math.max(0, from)) + code.substring(Math.max(0, to));
        for (String line : rest.split("\n")) {
            if (makes.matcher(line).find()) {
                Check.due("made with the object: " + line, field.matcher(line).matches() ? 1 : 0, 1);
            }
        }
    }
}

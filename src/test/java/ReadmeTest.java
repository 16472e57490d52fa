import java.io.IOException;
import java.lang.reflect.InvocationTargetException;
import java.lang.reflect.Method;
import java.lang.reflect.Modifier;
import java.nio.file.Files;
import java.nio.file.Path;
import java.util.regex.Matcher;
import java.util.regex.Pattern;

/** What README.md shows as an example of use answers as README.md says, and README.md names every call. */
final class ReadmeTest {
    private static final Pattern EXAMPLE = Pattern.compile("(?s)```java\n(.*?)```");
    private static final Pattern MADE = Pattern.compile("FindersHide x = new FindersHide\\(\\);");
    private static final Pattern CALL = Pattern.compile("x\\.(\\w+)\\((.*?)\\);\\s*// (-?\\d+)\\b.*");

    private ReadmeTest() {
    }

    public static void main(String[] args) throws IOException, IllegalAccessException, InvocationTargetException {
        String readme = Files.readString(Path.of("README.md"));
        int examples = 0;
        Matcher m = EXAMPLE.matcher(readme);
        while (m.find()) {
            examples++;
            checkExample(m.group(1).split("\n"));
        }
        Check.due("an example is there", examples > 0 ? 1 : 0, 1);
        String prose = EXAMPLE.matcher(readme).replaceAll("");
        for (Method call : FindersHide.class.getDeclaredMethods()) {
            if (Modifier.isPublic(call.getModifiers())) {
                Check.due(call.getName() + " is named", Pattern.compile("`" + call.getName() + "\\(").matcher(prose).find() ? 1 : 0, 1);
            }
        }
        for (String file : new java.io.File("src/test/java").list()) {
            if (file.endsWith("Test.java")) {
                Check.due(file + " is named", prose.contains("`" + file.replace(".java", "`")) ? 1 : 0, 1);
            }
        }
        Check.finish("ReadmeTest");
    }

    /** A line that is neither of the two forms would go by untested, so there may be none. */
    private static void checkExample(String[] lines) throws IllegalAccessException, InvocationTargetException {
        FindersHide x = null;
        for (String line : lines) {
            Matcher m = CALL.matcher(line);
            if (MADE.matcher(line).matches()) {
                x = new FindersHide();
            } else if (x != null && m.matches()) {
                Check.due("README: " + line, answer(x, m.group(1), m.group(2)), Long.parseLong(m.group(3)));
            } else {
                Check.due("README: can be tested: " + line, 0, 1);
            }
        }
    }

    private static long answer(FindersHide x, String name, String numbers) throws IllegalAccessException, InvocationTargetException {
        String[] told = numbers.isEmpty() ? new String[0] : numbers.split(", ");
        for (Method call : FindersHide.class.getDeclaredMethods()) {
            if (call.getName().equals(name) && call.getParameterCount() == told.length) {
                Object[] given = new Object[told.length];
                for (int i = 0; i < told.length; i++) {
                    long v = Long.decode(told[i].replaceAll("L$", ""));
                    boolean isLong = call.getParameterTypes()[i] == long.class;
                    given[i] = isLong ? (Object) v : (Object) Math.toIntExact(v);
                }
                return ((Number) call.invoke(x, given)).longValue();
            }
        }
        Check.due("README: there is a call " + name + "(" + numbers + ")", 0, 1);
        return 0;
    }
}

import java.io.IOException;
import java.lang.reflect.Method;
import java.lang.reflect.Modifier;
import java.nio.file.Files;
import java.nio.file.Path;
import java.util.Set;
import java.util.TreeSet;
import java.util.regex.Matcher;
import java.util.regex.Pattern;

/**
 * What README.md shows of the class's use, call by call, with the answers that it gives there. It is
 * read from the directory that the test is started in, so that what it shows is what is tested.
 */
public final class RowGroupsReadme {
    private static final Pattern NEW_OBJECT = Pattern.compile("RowGroups row = new RowGroups\\(\\);");
    private static final Pattern CALL =
        Pattern.compile("row\\.(\\w+)\\((-?\\d+)?\\); +// (-?\\d+|true|false)(: .+)?");
    private static final Pattern CONSTANT = Pattern.compile("`([A-Z_]+)` \\((-?\\d+)\\)");

    private static final Set<String> shown = new TreeSet<>();
    private static int wrong = 0;
    private static RowGroups row = null;

    private static void tell(String what) {
        wrong++;
        System.out.println("README.md: " + what);
    }

    private static void due(String what, String got, String given) {
        if (!got.equals(given)) {
            tell(what + " is " + got + ", but " + given + " is given");
        }
    }

    private static void shownLine(String where, String line) throws ReflectiveOperationException {
        Matcher call = CALL.matcher(line);
        if (NEW_OBJECT.matcher(line).matches()) {
            row = new RowGroups();
        } else if (row != null && call.matches()) {
            due(where + call.group(1), answer(call.group(1), call.group(2)), call.group(3));
            shown.add(call.group(1));
        } else {
            // A line that is passed over would be shown without being tested.
            tell(where + "not understood: " + line);
        }
    }

    private static String answer(String name, String argument) throws ReflectiveOperationException {
        if (argument == null) {
            return String.valueOf(RowGroups.class.getMethod(name).invoke(row));
        }
        Method method = RowGroups.class.getMethod(name, int.class);
        return String.valueOf(method.invoke(row, Integer.parseInt(argument)));
    }

    private static void calls(String readme) throws ReflectiveOperationException {
        boolean inside = false;
        int number = 0;
        for (String line : readme.split("\n", -1)) {
            number++;
            if (line.startsWith("```")) {
                inside = line.equals("```java");
                row = null;
            } else if (inside) {
                shownLine("line " + number + ": ", line);
            }
        }
        for (Method method : RowGroups.class.getDeclaredMethods()) {
            if (isPublic(method) && !shown.contains(method.getName())) {
                tell(method.getName() + " is not shown");
            }
        }
    }

    private static boolean isPublic(Method method) {
        return Modifier.isPublic(method.getModifiers());
    }

    private static void constants(String readme) throws ReflectiveOperationException {
        Set<String> named = new TreeSet<>();
        Matcher constant = CONSTANT.matcher(readme);
        while (constant.find()) {
            String name = constant.group(1);
            named.add(name);
            due(name, String.valueOf(RowGroups.class.getField(name).getInt(null)), constant.group(2));
        }
        due("the set of the constants", "[BAD_ARG, FULL, NONE]", named.toString());
    }

    public static void main(String[] args) throws IOException, ReflectiveOperationException {
        String readme = Files.readString(Path.of("README.md"));
        calls(readme);
        constants(readme);
        System.out.println(wrong == 0 ? "README.md holds" : wrong + " things in README.md do not hold");
        if (wrong != 0) {
            System.exit(1);
        }
    }
}

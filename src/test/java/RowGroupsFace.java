import java.lang.reflect.Constructor;
import java.lang.reflect.Field;
import java.lang.reflect.Method;
import java.lang.reflect.Modifier;
import java.util.Set;
import java.util.TreeSet;

/** The public face is the document's, exactly, and what else is there is private. */
public final class RowGroupsFace {
    private static int wrong = 0;

    private static void dueSame(String what, Set<String> got, Set<String> want) {
        if (!got.equals(want)) {
            wrong++;
            System.out.println(what + " are " + got + ", due are " + want);
        }
    }

    private static void due(String what, boolean holds) {
        if (!holds) {
            wrong++;
            System.out.println("does not hold: " + what);
        }
    }

    private static Set<String> named(String... names) {
        return new TreeSet<>(Set.of(names));
    }

    private static void constructors() {
        Set<String> got = new TreeSet<>();
        for (Constructor<?> c : RowGroups.class.getDeclaredConstructors()) {
            got.add(c.toString());
        }
        dueSame("constructors", got, named("public RowGroups()"));
    }

    private static void methods() {
        Set<String> open = new TreeSet<>();
        Set<String> openNames = new TreeSet<>();
        Set<String> privateNames = new TreeSet<>();
        for (Method m : RowGroups.class.getDeclaredMethods()) {
            if (Modifier.isPrivate(m.getModifiers())) {
                privateNames.add(m.getName());
            } else {
                open.add(m.toString().replace("RowGroups.", ""));
                openNames.add(m.getName());
            }
        }
        dueSame("methods", open, named(
            "public int demand(int)", "public int undo()", "public int clear()",
            "public int demands()", "public int count()", "public int first(int)",
            "public int last(int)", "public boolean allowed(int)", "public boolean together(int)",
            "public int countWith(int)", "public int places(int)", "public int neighbours(int)",
            "public int groups()"));
        privateNames.retainAll(openNames);
        dueSame("private methods with a public name", privateNames, named());
    }

    private static void fields() {
        Set<String> open = new TreeSet<>();
        for (Field f : RowGroups.class.getDeclaredFields()) {
            int how = f.getModifiers();
            if (!Modifier.isPrivate(how)) {
                open.add(f.toString().replace("RowGroups.", ""));
            }
            if (Modifier.isStatic(how)) {
                due(f + " is a constant of int or long", Modifier.isFinal(how)
                    && (f.getType() == int.class || f.getType() == long.class));
            }
        }
        dueSame("fields that are not private", open, named(
            "public static final int BAD_ARG", "public static final int FULL",
            "public static final int NONE"));
    }

    public static void main(String[] args) {
        int how = RowGroups.class.getModifiers();
        due("the class is public and final", Modifier.isPublic(how) && Modifier.isFinal(how));
        due("no nested class", RowGroups.class.getDeclaredClasses().length == 0);
        constructors();
        methods();
        fields();
        System.out.println(wrong == 0 ? "the face is as due" : wrong + " parts of the face are not as due");
        if (wrong != 0) {
            System.exit(1);
        }
    }
}

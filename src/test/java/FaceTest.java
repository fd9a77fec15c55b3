import java.lang.reflect.Constructor;
import java.lang.reflect.Field;
import java.lang.reflect.Method;
import java.lang.reflect.Modifier;
import java.util.Set;
import java.util.TreeSet;

/** The public face: just the document's constants, constructor and methods. */
public final class FaceTest {
    private static final Check CHECK = new Check();

    public static void main(String[] args) {
        CHECK.due("public and final", HugTrees.class.getModifiers(), Modifier.PUBLIC | Modifier.FINAL);
        constants();
        constructors();
        methods();
        CHECK.finish();
    }

    private static void constants() {
        CHECK.due("NONE", HugTrees.NONE, -1);
        CHECK.due("UNKNOWN", HugTrees.UNKNOWN, -101);
        CHECK.due("OUTSIDE", HugTrees.OUTSIDE, -102);
        CHECK.due("STATE", HugTrees.STATE, -103);
        CHECK.due("FULL", HugTrees.FULL, -104);
        Set<String> open = new TreeSet<>();
        for (Field field : HugTrees.class.getDeclaredFields()) {
            if (!Modifier.isPrivate(field.getModifiers())) {
                open.add(field.toString());
            }
        }
        Set<String> want = new TreeSet<>();
        for (String name : "NONE UNKNOWN OUTSIDE STATE FULL".split(" ")) {
            want.add("public static final int HugTrees." + name);
        }
        same("fields", open, want);
    }

    private static void constructors() {
        Set<String> open = new TreeSet<>();
        for (Constructor<?> made : HugTrees.class.getDeclaredConstructors()) {
            open.add(made.toString());
        }
        same("constructors", open, Set.of("public HugTrees()"));
    }

    private static void methods() {
        Set<String> open = new TreeSet<>();
        Set<String> names = new TreeSet<>();
        for (Method method : HugTrees.class.getDeclaredMethods()) {
            if (!Modifier.isPrivate(method.getModifiers())) {
                open.add(method.toString().replace("HugTrees.", ""));
                names.add(method.getName());
            }
        }
        Set<String> want = new TreeSet<>();
        for (String face : ("int points(int);int set(int,int,int);int get(int,int);int is(int);int broken(int);"
                + "int mend();int low(int,int);int gap();int groups(int);int lower();int codes();"
                + "int joined(int,int,int);int way(int,int,int);long stretch(int,int);int spread(int);"
                + "int best(int);int grow(int);int weight(int);int parts();int rest(int,int);"
                + "int drawn(int,int,int);int goes(int,int,int);int count(int);long digest()").split(";")) {
            want.add("public " + face);
        }
        same("methods", open, want);
        for (Method method : HugTrees.class.getDeclaredMethods()) {
            boolean hides = Modifier.isPrivate(method.getModifiers()) && names.contains(method.getName());
            CHECK.due("private " + method.getName() + " bears a public name", hides ? 1 : 0, 0);
        }
    }

    private static void same(String what, Set<String> got, Set<String> want) {
        CHECK.due(what + " " + got + ", due are " + want, got.equals(want) ? 1 : 0, 1);
    }
}

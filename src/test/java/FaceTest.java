import java.lang.reflect.Constructor;
import java.lang.reflect.Field;
import java.lang.reflect.Method;
import java.lang.reflect.Modifier;
import java.util.Set;
import java.util.TreeSet;

/** The public face: exactly the document's members, and nothing else that another class can reach. */
public final class FaceTest {
    private static final Checks CHECKS = new Checks();

    public static void main(String[] args) {
        CHECKS.due("class is public final", SortSuite.class.getModifiers(), Modifier.PUBLIC | Modifier.FINAL);
        CHECKS.due("BAD", SortSuite.BAD, -1000);
        CHECKS.due("FULL", SortSuite.FULL, -2000);
        sameNames("fields", fields(), Set.of(
            "public static final int SortSuite.BAD",
            "public static final int SortSuite.FULL"));
        sameNames("constructors", constructors(), Set.of("public SortSuite()"));
        sameNames("methods", methods(), Set.of(
            "public int SortSuite.append(int,int,int)",
            "public int SortSuite.repeat(int,boolean)",
            "public int SortSuite.change(int,int)",
            "public boolean SortSuite.turn(int,int)",
            "public int SortSuite.remove(int)",
            "public int SortSuite.at(int)",
            "public int SortSuite.size()",
            "public int SortSuite.sorted(int,int)",
            "public int SortSuite.place(int,int)",
            "public boolean SortSuite.agree(int,int)",
            "public int SortSuite.sort(int)",
            "public int SortSuite.select(int)",
            "public int SortSuite.inversions()",
            "public int SortSuite.exchanges()",
            "public int SortSuite.growing()",
            "public int SortSuite.find(int)"));
        CHECKS.end();
    }

    private static void sameNames(String what, Set<String> got, Set<String> want) {
        boolean same = got.equals(want);
        CHECKS.due(what + " are the document's", same, true);
        if (!same) {
            System.out.println("found: " + got);
        }
    }

    private static Set<String> fields() {
        Set<String> names = new TreeSet<>();
        for (Field field : SortSuite.class.getDeclaredFields()) {
            if (!Modifier.isPrivate(field.getModifiers())) {
                names.add(field.toString());
            }
        }
        return names;
    }

    private static Set<String> constructors() {
        Set<String> names = new TreeSet<>();
        for (Constructor<?> constructor : SortSuite.class.getDeclaredConstructors()) {
            names.add(constructor.toString());
        }
        return names;
    }

    private static Set<String> methods() {
        Set<String> names = new TreeSet<>();
        for (Method method : SortSuite.class.getDeclaredMethods()) {
            if (!Modifier.isPrivate(method.getModifiers())) {
                names.add(method.toString());
            }
        }
        return names;
    }
}

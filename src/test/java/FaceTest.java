import java.lang.reflect.Constructor;
import java.lang.reflect.Executable;
import java.lang.reflect.Field;
import java.lang.reflect.Method;
import java.lang.reflect.Modifier;
import java.util.ArrayList;
import java.util.List;
import java.util.Set;
import java.util.TreeSet;

/**
 * The public face: exactly the members of the document's code block, and nothing else that another class can
 * reach. Parameters bear the document's names, too, so the class is compiled with -parameters.
 */
public final class FaceTest {
    private static final Checks CHECKS = new Checks();

    /** The code block as the document has it, word for word. */
    private static final String DOCUMENT = """
        public final class SortSuite {
            public static final int BAD = -1000;
            public static final int FULL = -2000;
            public SortSuite();
            public int append(int v, int step, int n);
            public int repeat(int n, boolean turned);
            public int change(int i, int v);
            public boolean turn(int i, int j);
            public int remove(int i);
            public int at(int i);
            public int size();
            public int sorted(int engine, int k);
            public int place(int engine, int k);
            public boolean agree(int engine, int other);
            public int sort(int engine);
            public int select(int k);
            public int inversions();
            public int exchanges();
            public int growing();
            public int find(int v);
        }
        """;

    public static void main(String[] args) throws IllegalAccessException {
        CHECKS.sentence("The public face");
        Set<String> due = dueLines();
        Set<String> found = foundLines();
        for (String line : due) {
            CHECKS.due("is there: " + line, found.contains(line), true);
        }
        for (String line : found) {
            CHECKS.due("is the document's: " + line, due.contains(line), true);
        }
        standsAlone();
        constantsAreKnownToTheCompiler();
        CHECKS.end();
    }

    private static Set<String> dueLines() {
        Set<String> lines = new TreeSet<>();
        for (String line : DOCUMENT.split("\n")) {
            lines.add(line.strip());
        }
        lines.remove("}");
        return lines;
    }

    private static Set<String> foundLines() throws IllegalAccessException {
        Set<String> lines = new TreeSet<>();
        lines.add(Modifier.toString(SortSuite.class.getModifiers()) + " class " + SortSuite.class.getName() + " {");
        for (Field field : SortSuite.class.getDeclaredFields()) {
            if (!Modifier.isPrivate(field.getModifiers())) {
                lines.add(told(field));
            }
        }
        for (Constructor<?> constructor : SortSuite.class.getDeclaredConstructors()) {
            lines.add(told(constructor, constructor.getName()));
        }
        for (Method method : SortSuite.class.getDeclaredMethods()) {
            if (!Modifier.isPrivate(method.getModifiers())) {
                lines.add(told(method, method.getReturnType().getTypeName() + " " + method.getName()));
            }
        }
        return lines;
    }

    private static String told(Field field) throws IllegalAccessException {
        String start = Modifier.toString(field.getModifiers()) + " " + field.getType().getTypeName();
        String value = Modifier.isStatic(field.getModifiers()) ? " = " + field.get(null) : "";
        return start + " " + field.getName() + value + ";";
    }

    private static String told(Executable member, String name) {
        List<String> parameters = new ArrayList<>();
        for (var parameter : member.getParameters()) {
            parameters.add(parameter.toString());
        }
        String thrown = member.getExceptionTypes().length == 0 ? "" : " throws ..";
        return Modifier.toString(member.getModifiers()) + " " + name
            + "(" + String.join(", ", parameters) + ")" + thrown + ";";
    }

    private static void standsAlone() {
        CHECKS.due("extends nothing", SortSuite.class.getSuperclass() == Object.class, true);
        CHECKS.due("interfaces", SortSuite.class.getInterfaces().length, 0);
        CHECKS.due("nested classes", SortSuite.class.getDeclaredClasses().length, 0);
    }

    /** A constant that is reckoned only when the class is loaded would not compile as a case. */
    private static void constantsAreKnownToTheCompiler() {
        CHECKS.due("case of at(0) of an empty list", caseOf(new SortSuite().at(0)), 1);
        CHECKS.due("case of append to 40", caseOf(Checks.listOf(Checks.mixed(40)).append(0, 0, 1)), 2);
        CHECKS.due("case of size()", caseOf(new SortSuite().size()), 0);
    }

    private static int caseOf(int answer) {
        switch (answer) {
            case SortSuite.BAD: return 1;
            case SortSuite.FULL: return 2;
            default: return 0;
        }
    }
}

import java.io.IOException;
import java.lang.reflect.Constructor;
import java.lang.reflect.Field;
import java.lang.reflect.Method;
import java.lang.reflect.Modifier;
import java.nio.charset.StandardCharsets;
import java.nio.file.Files;
import java.nio.file.Path;
import java.util.Arrays;
import java.util.HashSet;
import java.util.Set;
import java.util.TreeSet;

/**
 * The public face is the document's, and nothing else is to be seen (LANGUAGE.md, rules 1, 2, 5, 11). The argument
 * is the path of the class's source.
 */
public final class FaceTest {
    private static final String[] METHODS = {
        "int type(int,int)", "int wipe(int)", "int undo(int)", "int fault(int)", "int law(int,int)", "int want(int,int)",
        "int trial(int,int)", "int breach(int,int)", "int back(int)", "int binds(int,int)", "int does(int,int)",
        "int joy(int,int)", "int quarrels(int,int)", "int exempt(int,int,int,int)", "int keep(int,int)",
        "int order(int,int,int)", "int seen(int,int)", "int forget()", "int read(int)", "int sets(int)", "int watch()",
        "long gout(int,int,int,int,int)", "int years(int,int,int)", "int sheet(int,int,int)", "int lose(int)",
        "int lay(int,int,int,int)", "int get(int,int,int)", "int copy(int,int,int,int,int)", "int write(int,int)",
        "int count(int)", "long digest()"};
    // What the interface says ahead of calls, and the first of them.
    private static final String[][] HEADINGS = {{"laws, wants, trials", "type"}, {"years", "binds"}, {"plans", "exempt"},
        {"seen, gout, years by lot", "seen"}, {"sheets", "sheet"}};
    private static final Check CHECK = new Check();

    public static void main(String[] args) throws IOException {
        Class<?> face = KingsYear.class;
        CHECK.due("the class is", face.getModifiers(), Modifier.PUBLIC | Modifier.FINAL);
        Constructor<?>[] makers = face.getDeclaredConstructors();
        CHECK.due("constructors", makers.length, 1);
        CHECK.holds("a public one", makers[0].getParameterCount() == 0 && Modifier.isPublic(makers[0].getModifiers()));
        methods(face);
        constants(face);
        int classes = 1;
        for (Class<?> inner : face.getDeclaredClasses()) {
            classes++;
            CHECK.holds(inner + " is static", Modifier.isStatic(inner.getModifiers()));
            CHECK.holds(inner + " is hidden", !Modifier.isPublic(inner.getModifiers()) && !Modifier.isProtected(inner.getModifiers()));
            fields(inner);
            parameters(inner);
        }
        CHECK.holds("classes: " + classes, classes <= 12);
        fields(face);
        parameters(face);
        headings(Files.readString(Path.of(args[0]), StandardCharsets.ISO_8859_1));
        CHECK.end("FaceTest");
    }

    /** The calls stand in the document's order, each heading just ahead of its first one. */
    private static void headings(String source) {
        int before = -1;
        for (String method : METHODS) {
            int at = source.indexOf("\n    public " + method.substring(0, method.indexOf('(') + 1));
            CHECK.holds(method + " stands in its order", at > before);
            for (String[] heading : HEADINGS) {
                if (method.contains(" " + heading[1] + "(")) {
                    int head = source.indexOf("\n    // ---- " + heading[0] + "\n");
                    CHECK.holds(heading[0] + " is said ahead of " + method, head > before && head < at);
                }
            }
            before = at;
        }
    }

    private static void methods(Class<?> face) {
        Set<String> seen = new TreeSet<>();
        Set<String> names = new HashSet<>();
        Set<String> hidden = new HashSet<>();
        for (Method m : face.getDeclaredMethods()) {
            if (Modifier.isPublic(m.getModifiers())) {
                seen.add(told(m));
                names.add(m.getName());
            } else {
                CHECK.holds(m + " is private", Modifier.isPrivate(m.getModifiers()));
                hidden.add(m.getName());
            }
        }
        for (Class<?> inner : face.getDeclaredClasses()) {
            for (Method m : inner.getDeclaredMethods()) {
                if (Modifier.isPrivate(m.getModifiers())) {
                    hidden.add(m.getName());
                }
            }
        }
        hidden.retainAll(names);
        CHECK.holds("private methods with public names: " + hidden, hidden.isEmpty());
        Set<String> due = new TreeSet<>(Arrays.asList(METHODS));
        CHECK.holds("methods are " + seen, seen.equals(due));
    }

    private static String told(Method m) {
        StringBuilder s = new StringBuilder(Modifier.isStatic(m.getModifiers()) ? "static " : "");
        s.append(m.getReturnType().getName()).append(' ').append(m.getName()).append('(');
        for (Class<?> p : m.getParameterTypes()) {
            s.append(s.charAt(s.length() - 1) == '(' ? "" : ",").append(p.getName());
        }
        return s.append(')').toString();
    }

    private static void constants(Class<?> face) {
        Set<String> seen = new TreeSet<>();
        for (Field f : face.getDeclaredFields()) {
            if (Modifier.isPublic(f.getModifiers())) {
                CHECK.holds(f + " is a constant", Modifier.isStatic(f.getModifiers()) && Modifier.isFinal(f.getModifiers())
                    && f.getType() == int.class);
                seen.add(f.getName());
            } else {
                CHECK.holds(f + " is private", Modifier.isPrivate(f.getModifiers()));
            }
        }
        CHECK.holds("constants are " + seen, seen.equals(new TreeSet<>(Arrays.asList("NONE", "BAD", "NOT", "FULL"))));
        CHECK.due("NONE", KingsYear.NONE, -1);
        CHECK.due("BAD", KingsYear.BAD, -2);
        CHECK.due("NOT", KingsYear.NOT, -3);
        CHECK.due("FULL", KingsYear.FULL, -4);
    }

    private static void fields(Class<?> one) {
        int many = 0;
        for (Field f : one.getDeclaredFields()) {
            if (Modifier.isStatic(f.getModifiers())) {
                CHECK.holds(f + " is final", Modifier.isFinal(f.getModifiers()));
            } else {
                many++;
            }
        }
        CHECK.holds(one + " has fields: " + many, many <= 20);
    }

    private static void parameters(Class<?> one) {
        for (Method m : one.getDeclaredMethods()) {
            CHECK.holds(m + " takes at most seven", m.getParameterCount() <= 7);
        }
    }
}

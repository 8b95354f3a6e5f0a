import java.io.IOException;
import java.lang.reflect.Field;
import java.lang.reflect.Member;
import java.lang.reflect.Method;
import java.lang.reflect.Modifier;
import java.nio.file.Files;
import java.nio.file.Path;
import java.util.ArrayList;
import java.util.Arrays;
import java.util.List;
import java.util.Set;
import java.util.TreeSet;
import java.util.regex.Matcher;
import java.util.regex.Pattern;
import java.util.stream.Collectors;

/** The public face, and those rules of LANGUAGE.md that can be seen from outside. */
public final class LanguageTest {
    private static final Path SOURCE = Path.of("src/main/java/HeldTongues.java");
    private static final Path DOCUMENT = Path.of("../shared/DOC.md");
    private static final Due DUE = new Due();

    private static List<Class<?>> classes() {
        List<Class<?>> all = new ArrayList<>();
        all.add(HeldTongues.class);
        all.addAll(Arrays.asList(HeldTongues.class.getDeclaredClasses()));
        return all;
    }

    private static String signature(Method m) {
        String types = Arrays.stream(m.getParameterTypes()).map(Class::getName).collect(Collectors.joining(","));
        return m.getReturnType().getName() + " " + m.getName() + "(" + types + ")";
    }

    /** The methods of the document's face, as "int of(int,int)". */
    private static Set<String> promised() throws IOException {
        String document = Files.readString(DOCUMENT);
        String face = document.substring(document.indexOf("public final class"), document.indexOf("## Terms"));
        Set<String> promised = new TreeSet<>();
        Matcher m = Pattern.compile("public (int|long) (\\w+)\\((.*)\\);").matcher(face);
        while (m.find()) {
            promised.add(m.group(1) + " " + m.group(2) + "(" + m.group(3).replaceAll(" \\w+(, |$)", ",")
                    .replaceAll(",$", "") + ")");
        }
        return promised;
    }

    private static void face() throws IOException {
        Set<String> open = new TreeSet<>();
        for (Method m : HeldTongues.class.getDeclaredMethods()) {
            if (Modifier.isPublic(m.getModifiers())) {
                open.add(signature(m));
            } else {
                DUE.holds(m + " is private", Modifier.isPrivate(m.getModifiers()));
            }
        }
        DUE.due("methods of the face", promised().size(), 44);
        DUE.holds("the face is " + open, open.equals(promised()));
        DUE.due("constructors", HeldTongues.class.getDeclaredConstructors().length, 1);
        DUE.due("public constructors", HeldTongues.class.getConstructors().length, 1);
        DUE.due("public constants", HeldTongues.class.getFields().length, 3);
        DUE.holds("public and final", HeldTongues.class.getModifiers() == (Modifier.PUBLIC | Modifier.FINAL));
        for (Field f : HeldTongues.class.getDeclaredFields()) {
            DUE.holds(f + " is private or of the face",
                    Modifier.isPrivate(f.getModifiers()) || Set.of("BAD", "FULL", "NONE").contains(f.getName()));
        }
    }

    private static void noNameTwice() {
        Set<String> names = Arrays.stream(HeldTongues.class.getMethods()).map(Method::getName)
                .collect(Collectors.toCollection(TreeSet::new));
        for (Class<?> c : classes()) {
            for (Method m : c.getDeclaredMethods()) {
                boolean ofFace = c == HeldTongues.class && Modifier.isPublic(m.getModifiers());
                DUE.holds(m + " has a name of its own", ofFace || !names.contains(m.getName()));
            }
        }
    }

    private static void classesInside() {
        DUE.holds("at most twelve classes", classes().size() <= 12);
        for (Class<?> c : HeldTongues.class.getDeclaredClasses()) {
            int modifiers = c.getModifiers();
            DUE.holds(c + " is static", Modifier.isStatic(modifiers));
            DUE.holds(c + " is not open", !Modifier.isPublic(modifiers) && !Modifier.isProtected(modifiers));
            DUE.due("classes inside " + c, c.getDeclaredClasses().length, 0);
        }
        for (Class<?> c : classes()) {
            long fields = Arrays.stream(c.getDeclaredFields())
                    .filter(f -> !Modifier.isStatic(f.getModifiers())).count();
            DUE.holds(c + " has at most twenty fields", fields <= 20);
            for (Field f : c.getDeclaredFields()) {
                staticField(f);
            }
            for (Method m : c.getDeclaredMethods()) {
                DUE.holds(m + " has at most seven parameters", m.getParameterCount() <= 7);
                written(m);
            }
        }
    }

    private static void staticField(Field f) {
        if (Modifier.isStatic(f.getModifiers())) {
            DUE.holds(f + " is final", Modifier.isFinal(f.getModifiers()));
            DUE.holds(f + " is a plain constant",
                    Set.of("int", "long", "boolean", "char", "java.lang.String").contains(f.getType().getName()));
        }
        written(f);
    }

    private static void written(Member m) {
        DUE.holds(m + " is written in the file", !m.isSynthetic());
    }

    private static String bareSource() throws IOException {
        return Files.readString(SOURCE)
                .replaceAll("(?s)/\\*.*?\\*/", "")
                .replaceAll("//[^\n]*", "")
                .replaceAll("\"[^\"\n]*\"", "\"\"");
    }

    private static void source() throws IOException {
        String source = bareSource();
        String[] forbidden = {"\\bthrow\\b", "\\bthrows\\b", "\\btry\\b", "\\bcatch\\b", "\\bfinally\\b",
            "\\bsynchronized\\b", "\\bassert\\b", "\\bimport\\b", "\\bpackage\\b", "->", "::", "Exact\\(",
            "\\bdouble\\b", "\\bfloat\\b", "\\bvar\\b", "\\bObject\\b", "\\bhashCode\\b", "\\btoString\\b",
            "\"\"\\s*\\+", "\\+\\s*\"\"", "while \\(true\\)", "for \\(;;"};
        for (String pattern : forbidden) {
            DUE.holds("no " + pattern, !Pattern.compile(pattern).matcher(source).find());
        }
        for (char c : source.toCharArray()) {
            if (c > 126) {
                DUE.holds("only plain signs", false);
            }
        }
    }

    /** A method begins with a line that ends in ") {" and has no loop or branch in front of it. */
    private static void shortMethods() throws IOException {
        Pattern head = Pattern.compile("^( +)(?:\\w[\\w<>\\[\\] ]* )?(\\w+)\\([^()]*\\) \\{$");
        int began = 0;
        String indent = null;
        String name = "";
        List<String> lines = Files.readAllLines(SOURCE);
        for (int i = 0; i < lines.size(); i++) {
            Matcher m = head.matcher(lines.get(i));
            if (indent == null && m.matches()) {
                began = i;
                indent = m.group(1);
                name = m.group(2);
            } else if (indent != null && lines.get(i).equals(indent + "}")) {
                DUE.holds(name + " is short", i - began + 1 <= 60);
                indent = null;
            }
        }
    }

    public static void main(String[] args) throws IOException {
        face();
        noNameTwice();
        classesInside();
        source();
        shortMethods();
        DUE.end();
    }
}

import java.io.IOException;
import java.lang.reflect.Method;
import java.lang.reflect.Modifier;
import java.nio.file.Files;
import java.nio.file.Path;
import java.util.ArrayList;
import java.util.Arrays;
import java.util.List;
import java.util.TreeSet;
import java.util.regex.Matcher;
import java.util.regex.Pattern;
import java.util.stream.Collectors;

/** The face of the class is the one that the document's "The public face" shows, and the source keeps to what LANGUAGE.md lets a text show. */
public final class FaceTest {
    private static final Path SOURCE = Path.of("src/main/java/ClassMaker.java");
    private static final Path DOCUMENT = Path.of("../shared/DOC.md");
    private static int wrong;

    public static void main(String[] args) throws IOException {
        checkFace();
        checkNames();
        checkSource(Files.readString(SOURCE));
        if (wrong > 0) {
            System.exit(1);
        }
        System.out.println("face: as the document shows it");
    }

    private static void say(String text) {
        wrong++;
        System.out.println(text);
    }

    private static TreeSet<String> documentFace() throws IOException {
        String text = Files.readString(DOCUMENT);
        String face = text.substring(text.indexOf("public final class ClassMaker {"), text.indexOf("## Terms"));
        TreeSet<String> calls = new TreeSet<>();
        Matcher m = Pattern.compile("public (int|boolean) (\\w+)\\(([^)]*)\\)( throws \\w+)?;").matcher(face);
        while (m.find()) {
            String types = m.group(3).isEmpty() ? "" : Arrays.stream(m.group(3).split(", ")).map(p -> p.split(" ")[0])
                .collect(Collectors.joining(","));
            calls.add(m.group(1) + " " + m.group(2) + "(" + types + ")");
        }
        return calls;
    }

    private static void checkFace() throws IOException {
        TreeSet<String> have = new TreeSet<>();
        for (Method m : ClassMaker.class.getDeclaredMethods()) {
            if (Modifier.isPublic(m.getModifiers())) {
                have.add(m.getReturnType() + " " + m.getName() + "("
                    + Arrays.stream(m.getParameterTypes()).map(Class::getName).collect(Collectors.joining(",")) + ")");
            } else if (!Modifier.isPrivate(m.getModifiers())) {
                say("neither public nor private: " + m);
            }
        }
        TreeSet<String> due = documentFace();
        if (due.size() != 39 || !have.equals(due)) {
            say("the face is " + have + ", due is " + due);
        }
        Arrays.stream(ClassMaker.class.getDeclaredFields())
            .filter(f -> !Modifier.isPrivate(f.getModifiers()) && !f.getName().equals("NONE"))
            .forEach(f -> say("not private: " + f));
        if (ClassMaker.class.getConstructors().length != 1 || ClassMaker.class.getDeclaredConstructors().length != 1) {
            say("another constructor than the document's");
        }
        if (!Modifier.isFinal(ClassMaker.class.getModifiers())) {
            say("the class isn't final");
        }
    }

    private static void checkNames() {
        List<Class<?>> all = new ArrayList<>(List.of(ClassMaker.class.getDeclaredClasses()));
        all.add(ClassMaker.class);
        TreeSet<String> names = new TreeSet<>();
        for (Method m : ClassMaker.class.getDeclaredMethods()) {
            if (Modifier.isPublic(m.getModifiers())) {
                names.add(m.getName());
            }
        }
        for (Class<?> c : all) {
            for (Method m : c.getDeclaredMethods()) {
                boolean isFace = c == ClassMaker.class && Modifier.isPublic(m.getModifiers());
                if (!isFace && names.contains(m.getName())) {
                    say("named like a call of the face: " + m);
                }
                if (m.getParameterCount() > 7) {
                    say("more than seven parameters: " + m);
                }
            }
        }
        if (all.size() > 14) {
            say("more than some twelve classes");
        }
    }

    private static void checkSource(String source) {
        String code = source.replaceAll("(?s)/\\*.*?\\*/", "").replaceAll("//[^\n]*", "").replaceAll("\"[^\"]*\"", "\"\"");
        for (String bad : List.of("::", "finally", "synchronized", "assert", "package ", "\" +", "+ \"", "Exact(", "Throwable",
                "ArrayIndexOutOfBounds", "NullPointer", "ClassCast", "NegativeArraySize", "ArrayStore", "System.nanoTime", "System.currentTime",
                "System.out", "Random", "Thread", "getMessage")) {
            if (code.contains(bad)) {
                say("not in the language: " + bad);
            }
        }
        if (Pattern.compile("(?m)^(?!\\s*(case|default)\\b).*->").matcher(code).find()) {
            say("a lambda");
        }
        for (char c : source.toCharArray()) {
            if (c > 126) {
                say("a sign beyond 126");
                return;
            }
        }
    }
}

import java.io.IOException;
import java.lang.reflect.Method;
import java.lang.reflect.Modifier;
import java.nio.file.Files;
import java.nio.file.Path;
import java.util.ArrayList;
import java.util.List;
import java.util.TreeSet;
import java.util.regex.Matcher;
import java.util.regex.Pattern;

/**
 * Makes programs of the java blocks of README.md, to be compiled and run: each answer told behind // is asked for. One has
 * ClassMaker's rooms, the other one NaiveRoom's, so that what README.md tells is what the document says, too.
 *
 * <p>A block that begins with static has methods; all others are one run of lines. A line that isn't indented is a new room,
 * the head or the end of a loop, a remark, or one call with its answer: NONE, true, false, a number, or throws and a name.
 */
public final class ReadmeCalls {
    private static final Pattern ANSWERED =
        Pattern.compile("(int (\\w+) = )?(.+);\\s*// (NONE|true|false|-?\\d+|throws \\w+)(:.*)?");
    private static final Pattern OTHER = Pattern.compile("ClassMaker (\\w+) = new ClassMaker\\(\\);|for \\(.*\\) \\{|\\}|//.*|\\s.*|");

    private static final String FRAME = """
            import java.util.function.Supplier;
            public final class NAME {
                private static int told;
                private static int wrong;
                private static void due(String call, Supplier<Object> made, String answer) {
                    told++;
                    String got;
                    try {
                        got = String.valueOf(made.get());
                    } catch (RuntimeException e) {
                        got = "throws " + e.getClass().getSimpleName();
                    }
                    if (!got.equals(answer)) {
                        wrong++;
                        System.out.println("README.md: " + call + " answered " + got + ", told is " + answer);
                    }
                }
                METHODS
                public static void main(String[] args) {
                    RUN
                    if (wrong > 0) System.exit(1);
                    System.out.println("README.md with ROOM: " + told + " answers are as told");
                }
            }
            """;

    private final StringBuilder methods = new StringBuilder();
    private final StringBuilder run = new StringBuilder();
    private final TreeSet<String> unshown = new TreeSet<>();
    private final List<String> faults = new ArrayList<>();

    /** Arguments: README.md, and a directory for the programs. */
    public static void main(String[] args) throws IOException {
        ReadmeCalls calls = new ReadmeCalls();
        calls.read(Files.readString(Path.of(args[0])));
        calls.faults.forEach(System.out::println);
        if (!calls.faults.isEmpty()) System.exit(1);
        calls.write(Path.of(args[1]), "ReadmeWithClassMaker", "ClassMaker");
        calls.write(Path.of(args[1]), "ReadmeWithNaiveRoom", "NaiveRoom");
    }

    private void read(String page) {
        for (Method m : ClassMaker.class.getDeclaredMethods()) {
            if (Modifier.isPublic(m.getModifiers())) unshown.add(m.getName());
        }
        Matcher block = Pattern.compile("```java\n(.*?)```", Pattern.DOTALL).matcher(page);
        while (block.find()) {
            String text = block.group(1);
            if (text.startsWith("static ")) {
                methods.append(text);
            } else {
                text.lines().forEach(this::readLine);
            }
        }
        if (!unshown.isEmpty()) faults.add("README.md shows no answer of " + unshown);
    }

    private void readLine(String line) {
        Matcher m = ANSWERED.matcher(line);
        if (!line.startsWith(" ") && m.matches()) {
            String call = m.group(3);
            String answer = quoted(m.group(4).equals("NONE") ? "-1" : m.group(4));
            if (m.group(1) == null) {
                run.append("due(" + quoted(call) + ", () -> " + call + ", " + answer + ");\n");
            } else {
                run.append(m.group(1) + call + ";\ndue(" + quoted(call) + ", () -> " + m.group(2) + ", " + answer + ");\n");
            }
            Matcher name = Pattern.compile("^\\w+\\.(\\w+)\\(").matcher(call);
            if (name.find()) unshown.remove(name.group(1));
        } else if (OTHER.matcher(line).matches()) {
            run.append(line).append('\n');
        } else {
            faults.add("README.md tells no answer: " + line);
        }
    }

    private static String quoted(String text) {
        return '"' + text.replace("\\", "\\\\").replace("\"", "\\\"") + '"';
    }

    private void write(Path directory, String name, String room) throws IOException {
        String text = FRAME.replace("NAME", name).replace("ROOM", room)
            .replace("METHODS", methods.toString().replace("ClassMaker", room))
            .replace("RUN", run.toString().replace("ClassMaker", room));
        Files.writeString(directory.resolve(name + ".java"), text);
    }
}

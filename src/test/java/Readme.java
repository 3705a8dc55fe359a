import java.io.IOException;
import java.io.StringWriter;
import java.lang.reflect.Method;
import java.lang.reflect.Modifier;
import java.net.URL;
import java.net.URLClassLoader;
import java.nio.file.Files;
import java.nio.file.Path;
import java.util.ArrayList;
import java.util.List;
import java.util.TreeSet;
import java.util.regex.Matcher;
import java.util.regex.Pattern;
import javax.tools.JavaCompiler;
import javax.tools.ToolProvider;

/** Makes one program of the blocks in README.md, runs it, and compares what it answers with what README.md says. */
public final class Readme {
    private static final Pattern CALL = Pattern.compile("(\\w+)\\.(\\w+)\\(([^)]*)\\);\\s+// (.*)");
    private static final Pattern ANSWER =
        Pattern.compile("(-?\\d+|true|false|throws NoSuchElementException)(?:, ROW((?: -?\\d+)+))?(?:: \\S.*)?");
    private static final Pattern ALONE = Pattern.compile("LighterAtDusk \\w+ = new LighterAtDusk\\(\\);|tell\\(\\w+, \"[^\"]*\"\\);");

    private static final List<String> faults = new ArrayList<>();
    private static int asked = 0;

    private final StringBuilder methods = new StringBuilder();
    private final StringBuilder statements = new StringBuilder();
    private final TreeSet<String> shown = new TreeSet<>();

    public static void main(String[] args) throws Exception {
        Readme readme = new Readme();
        readme.read(Files.readAllLines(Path.of("README.md")));
        readme.lookForAllCalls();
        readme.run();
        for (String fault : faults) {
            System.out.println("README.md " + fault);
        }
        System.out.println(asked + " answers of README.md asked for, " + faults.size() + " faults");
        if (!faults.isEmpty() || asked == 0) {
            System.exit(1);
        }
    }

    /** For the program that is made. */
    public static void due(int line, String call, String got, String want) {
        asked++;
        if (!got.equals(want)) {
            faults.add("line " + line + ": " + call + " answered " + got + ", README.md says " + want);
        }
    }

    /** For the program that is made. */
    public static void dueRow(int line, String call, LighterAtDusk x, String want) {
        StringBuilder got = new StringBuilder();
        for (int i = 0; i < x.count(9); i++) {
            got.append(' ').append(x.row(i));
        }
        due(line, "the ROW behind " + call, got.toString(), want);
    }

    private void read(List<String> lines) {
        boolean inside = false;
        boolean isMethod = false;
        for (int k = 0; k < lines.size(); k++) {
            String line = lines.get(k);
            if (line.startsWith("```")) {
                inside = line.equals("```java");
                isMethod = inside && k + 1 < lines.size() && lines.get(k + 1).startsWith("static ");
            } else if (isMethod) {
                methods.append(line).append('\n');
            } else if (inside) {
                readStatement(line, k + 1);
            }
        }
    }

    private void readStatement(String line, int number) {
        if (ALONE.matcher(line).matches()) {
            statements.append(line).append('\n');
            return;
        }
        Matcher call = CALL.matcher(line);
        Matcher answer = ANSWER.matcher(call.matches() ? call.group(4) : "");
        if (!answer.matches()) {
            faults.add("line " + number + " is no call with its answer: " + line);
            return;
        }
        shown.add(call.group(2));
        String object = call.group(1);
        String words = object + "." + call.group(2) + "(" + call.group(3) + ")";
        statements.append("{ String got; try { got = String.valueOf(").append(words)
            .append("); } catch (java.util.NoSuchElementException e) { got = \"throws NoSuchElementException\"; }\n")
            .append("Readme.due(").append(number).append(", \"").append(words).append("\", got, \"")
            .append(answer.group(1)).append("\"); }\n");
        if (answer.group(2) != null) {
            statements.append("Readme.dueRow(").append(number).append(", \"").append(words).append("\", ").append(object)
                .append(", \"").append(answer.group(2)).append("\");\n");
        }
    }

    private void lookForAllCalls() {
        for (Method method : LighterAtDusk.class.getDeclaredMethods()) {
            if (Modifier.isPublic(method.getModifiers()) && !shown.contains(method.getName())) {
                faults.add("shows no call of " + method.getName() + "()");
            }
        }
    }

    private void run() throws Exception {
        Path place = Files.createTempDirectory("readme");
        try {
            Path source = place.resolve("ReadmeCalls.java");
            Files.writeString(source, "public final class ReadmeCalls {\n" + methods
                + "public static void run() {\n" + statements + "}\n}\n");
            JavaCompiler compiler = ToolProvider.getSystemJavaCompiler();
            StringWriter said = new StringWriter();
            List<String> options = List.of("-d", place.toString(), "-cp", System.getProperty("java.class.path"));
            boolean compiled = compiler.getTask(said, null, null, options, null,
                compiler.getStandardFileManager(null, null, null).getJavaFileObjects(source)).call();
            if (!compiled) {
                faults.add("has blocks that do not compile: " + said);
                return;
            }
            try (URLClassLoader loader = new URLClassLoader(new URL[] {place.toUri().toURL()})) {
                loader.loadClass("ReadmeCalls").getMethod("run").invoke(null);
            }
        } finally {
            clear(place);
        }
    }

    private static void clear(Path place) throws IOException {
        try (var files = Files.list(place)) {
            for (Path file : files.toList()) {
                Files.delete(file);
            }
        }
        Files.delete(place);
    }
}

import java.io.IOException;
import java.lang.reflect.Field;
import java.lang.reflect.Method;
import java.lang.reflect.Modifier;
import java.net.URL;
import java.net.URLClassLoader;
import java.nio.file.Files;
import java.nio.file.Path;
import java.util.ArrayList;
import java.util.List;
import java.util.regex.Matcher;
import java.util.regex.Pattern;
import javax.tools.ToolProvider;

/** The examples of README.md compile and answer what stands beside them, and it names every call and constant. */
public final class ReadmeTest {
    private static final Path README = Path.of("README.md");
    /** A call whose answer stands in the comment, before a colon; it may be kept in a variable. */
    private static final Pattern CALL = Pattern.compile("(?:int (\\w+) = )?(store\\..*); +// (\\w+): .+");
    private static final Pattern MAKING = Pattern.compile("StampedStore store = new StampedStore\\(\\d+\\);( +// .+)?");
    private static int made = 0;
    private static int wrong = 0;

    public static void main(String[] args) throws Exception {
        List<String> lines = Files.readAllLines(README);
        namesTheFace(String.join("\n", lines));
        List<List<String>> examples = examples(lines);
        check("it has examples", !examples.isEmpty());
        run(program(examples));
        System.out.println(made + " calls of README.md, " + wrong + " faults");
        if (wrong != 0) {
            System.exit(1);
        }
    }

    /** The programs that are made of the examples call this. */
    public static void due(String call, Object got, Object want) {
        made++;
        check(call + " answered " + got + ", README.md has " + want, got.equals(want));
    }

    private static void namesTheFace(String text) {
        for (Method method : StampedStore.class.getDeclaredMethods()) {
            if (Modifier.isPublic(method.getModifiers())) {
                check("it names " + method.getName(), text.contains("`" + method.getName() + "("));
            }
        }
        for (Field field : StampedStore.class.getDeclaredFields()) {
            if (Modifier.isPublic(field.getModifiers())) {
                check("it names " + field.getName(), text.contains("`" + field.getName() + "`"));
            }
        }
    }

    private static List<List<String>> examples(List<String> lines) {
        List<List<String>> examples = new ArrayList<>();
        boolean inside = false;
        for (String line : lines) {
            if (line.startsWith("```")) {
                inside = line.equals("```java");
                if (inside) {
                    examples.add(new ArrayList<>());
                }
            } else if (inside) {
                examples.get(examples.size() - 1).add(line);
            }
        }
        return examples;
    }

    private static String program(List<List<String>> examples) {
        StringBuilder program = new StringBuilder("public class Examples {\npublic static void main(String[] args) {\n");
        for (List<String> example : examples) {
            program.append("{\n");
            for (String line : example) {
                program.append(statement(line)).append('\n');
            }
            program.append("}\n");
        }
        return program.append("}\n}\n").toString();
    }

    private static String statement(String line) {
        Matcher call = CALL.matcher(line);
        if (!call.matches()) {
            check("a line of an example makes an object or tells its answer: " + line, MAKING.matcher(line).matches());
            return line;
        }
        String want = Character.isUpperCase(call.group(3).charAt(0)) ? "StampedStore." + call.group(3) : call.group(3);
        String due = "ReadmeTest.due(\"" + call.group(2) + "\", ";
        if (call.group(1) == null) {
            return due + call.group(2) + ", " + want + ");";
        }
        return "int " + call.group(1) + " = " + call.group(2) + "; " + due + call.group(1) + ", " + want + ");";
    }

    private static void run(String program) throws Exception {
        Path folder = Files.createTempDirectory("readme");
        Path source = folder.resolve("Examples.java");
        Path compiled = folder.resolve("Examples.class");
        try {
            Files.writeString(source, program);
            int exit = ToolProvider.getSystemJavaCompiler().run(null, null, null, "-proc:none",
                "-cp", System.getProperty("java.class.path"), "-d", folder.toString(), source.toString());
            check("the examples compile", exit == 0);
            if (exit == 0) {
                callMain(folder);
            }
        } finally {
            Files.deleteIfExists(compiled);
            Files.deleteIfExists(source);
            Files.deleteIfExists(folder);
        }
    }

    private static void callMain(Path folder) throws IOException, ReflectiveOperationException {
        try (URLClassLoader loader = new URLClassLoader(new URL[] {folder.toUri().toURL()})) {
            loader.loadClass("Examples").getMethod("main", String[].class).invoke(null, (Object) new String[0]);
        }
    }

    private static void check(String what, boolean holds) {
        if (!holds) {
            wrong++;
            System.out.println("not so: " + what);
        }
    }
}

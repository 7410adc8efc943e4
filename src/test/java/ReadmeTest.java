import java.io.ByteArrayOutputStream;
import java.io.PrintStream;
import java.lang.reflect.Method;
import java.lang.reflect.Modifier;
import java.net.URL;
import java.net.URLClassLoader;
import java.nio.file.Files;
import java.nio.file.Path;
import java.util.ArrayList;
import java.util.Arrays;
import java.util.List;
import java.util.Set;
import java.util.TreeSet;
import java.util.regex.Matcher;
import java.util.regex.Pattern;
import javax.tools.ToolProvider;

/** Compiles and runs the example of README.md: each of its calls must have the answer that stands behind it. */
public final class ReadmeTest {
    private static final Pattern BLOCK = Pattern.compile("(?s)```java\n(.*?)```");
    private static final Pattern CALL = Pattern.compile("^ {8}(s\\.(\\w+)\\(.*\\)); +// (-?\\w+):.*$");

    private static int wrong = 0;

    public static void main(String[] args) throws Exception {
        Matcher block = BLOCK.matcher(Files.readString(Path.of("README.md")));
        if (!block.find()) {
            complain("README.md has no example");
        } else {
            checkExample(block.group(1));
        }
        if (wrong != 0) {
            System.exit(1);
        }
    }

    private static void complain(String what) {
        wrong++;
        System.out.println(what);
    }

    private static void checkExample(String example) throws Exception {
        List<String> calls = new ArrayList<>();
        List<Integer> answers = new ArrayList<>();
        Set<String> named = new TreeSet<>();
        StringBuilder program = new StringBuilder();
        for (String line : example.substring(0, example.indexOf("private static void write")).split("\n")) {
            Matcher call = CALL.matcher(line);
            if (call.matches()) {
                calls.add(call.group(1));
                answers.add(answer(call.group(3)));
                named.add(call.group(2));
                program.append("System.out.println(").append(call.group(1)).append(");\n");
            } else if (line.trim().startsWith("s.")) {
                complain("no answer stands behind " + line.trim());
            } else {
                program.append(line).append('\n');
            }
        }
        program.append(example.substring(example.indexOf("private static void write")));
        checkAnswers(calls, answers, run(program.toString()));
        for (Method method : SteeredClaims.class.getDeclaredMethods()) {
            if (Modifier.isPublic(method.getModifiers()) && !named.contains(method.getName())) {
                complain("the example does not show " + method.getName());
            }
        }
    }

    private static int answer(String text) throws Exception {
        return text.matches("-?\\d+") ? Integer.parseInt(text) : SteeredClaims.class.getField(text).getInt(null);
    }

    private static void checkAnswers(List<String> calls, List<Integer> answers, List<String> printed) {
        if (printed.size() != calls.size()) {
            complain("the example has " + calls.size() + " calls, and printed " + printed.size() + " answers");
        }
        for (int i = 0; i < calls.size() && i < printed.size(); i++) {
            if (!printed.get(i).equals(answers.get(i).toString())) {
                complain(calls.get(i) + " answered " + printed.get(i) + ", README.md says " + answers.get(i));
            }
        }
    }

    /** What the program prints, line by line. */
    private static List<String> run(String program) throws Exception {
        Path place = Files.createTempDirectory("readme");
        Path source = place.resolve("Example.java");
        Files.writeString(source, program);
        String[] options = {"-cp", System.getProperty("java.class.path"), "-d", place.toString(), source.toString()};
        PrintStream before = System.out;
        ByteArrayOutputStream printed = new ByteArrayOutputStream();
        if (ToolProvider.getSystemJavaCompiler().run(null, null, null, options) != 0) {
            complain("the example cannot be compiled");
        } else {
            try (URLClassLoader loader = new URLClassLoader(new URL[] {place.toUri().toURL()})) {
                System.setOut(new PrintStream(printed, true));
                loader.loadClass("Example").getMethod("main", String[].class).invoke(null, (Object) new String[0]);
            } finally {
                System.setOut(before);
            }
        }
        try (var files = Files.list(place)) {
            for (Path file : files.toList()) {
                Files.delete(file);
            }
        }
        Files.delete(place);
        return printed.size() == 0 ? List.of() : Arrays.asList(printed.toString().split("\\R"));
    }
}

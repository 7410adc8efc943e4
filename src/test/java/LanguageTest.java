import java.lang.reflect.Constructor;
import java.lang.reflect.Field;
import java.lang.reflect.Method;
import java.lang.reflect.Modifier;
import java.nio.file.Files;
import java.nio.file.Path;
import java.util.ArrayList;
import java.util.Arrays;
import java.util.List;
import java.util.Set;
import java.util.TreeSet;
import java.util.regex.Matcher;
import java.util.regex.Pattern;

/** Checks the face, and those rules of LANGUAGE.md that can be seen from the class file or from the text of the source. */
public final class LanguageTest {
    private static final String[] FORBIDDEN = {
        "\\b(throws?|try|catch|synchronized|assert|import|package|protected|transient|volatile|native|var|yield)\\b",
        "\\b(Object|Thread|hashCode|toString)\\b", "\\bequals\\s*\\(", "Exception", "Exact\\b", "->", "::",
        "static\\s*\\{", "while\\s*\\(\\s*true", "for\\s*\\([^;]*;\\s*;"
    };

    private static int wrong = 0;

    public static void main(String[] args) throws Exception {
        checkFace(Files.readString(Path.of("../shared/DOC.md")));
        List<Class<?>> classes = new ArrayList<>(List.of(SteeredClaims.class));
        classes.addAll(Arrays.asList(SteeredClaims.class.getDeclaredClasses()));
        classes.forEach(LanguageTest::checkClass);
        if (classes.size() > 12) {
            complain(classes.size() + " classes");
        }
        checkText(Files.readString(Path.of(args[0])));
        if (wrong != 0) {
            System.exit(1);
        }
    }

    private static void complain(String what) {
        wrong++;
        System.out.println(what);
    }

    /** The face as the document writes it: "public int name(int argument, ..);", and the constants. */
    private static void checkFace(String document) throws Exception {
        Set<String> due = new TreeSet<>();
        Set<String> names = new TreeSet<>();
        Matcher m = Pattern.compile("(?m)^    public int (\\w+)\\((.*)\\);$").matcher(document);
        while (m.find()) {
            names.add(m.group(1));
            due.add("public int SteeredClaims." + m.group(1) + "(" + m.group(2).replaceAll(" \\w+(?=,|$)", "").replace(" ", "") + ")");
        }
        Set<String> methods = new TreeSet<>();
        for (Method method : SteeredClaims.class.getDeclaredMethods()) {
            if (!Modifier.isPrivate(method.getModifiers())) {
                methods.add(method.toString());
            } else if (names.contains(method.getName())) {
                complain("a private method bears the name of a public one: " + method);
            }
        }
        if (due.size() != 24 || !methods.equals(due)) {
            complain("the methods are " + methods + ", due are " + due);
        }
        for (Class<?> inside : SteeredClaims.class.getDeclaredClasses()) {
            for (Method method : inside.getDeclaredMethods()) {
                if (names.contains(method.getName())) {
                    complain("a method inside bears the name of a public one: " + method);
                }
            }
        }
        checkConstants(document);
        Constructor<?>[] constructors = SteeredClaims.class.getDeclaredConstructors();
        if (constructors.length != 1 || !constructors[0].toString().equals("public SteeredClaims()")
                || SteeredClaims.class.getModifiers() != (Modifier.PUBLIC | Modifier.FINAL)) {
            complain("the constructor, or the class");
        }
    }

    private static void checkConstants(String document) throws Exception {
        Set<String> due = new TreeSet<>();
        Matcher line = Pattern.compile("(?m)^    public static final int (.*);$").matcher(document);
        while (line.find()) {
            due.addAll(Arrays.asList(line.group(1).split(", ")));
        }
        Set<String> constants = new TreeSet<>();
        for (Field field : SteeredClaims.class.getDeclaredFields()) {
            if (!Modifier.isPrivate(field.getModifiers())) {
                boolean fine = field.toString().equals("public static final int SteeredClaims." + field.getName());
                constants.add(field.getName() + (fine ? " = " + field.getInt(null) : ", which is " + field));
            }
        }
        if (due.size() != 5 || !constants.equals(due)) {
            complain("the constants are " + constants + ", due are " + due);
        }
    }

    private static void checkClass(Class<?> type) {
        int fields = 0;
        for (Field field : type.getDeclaredFields()) {
            boolean isStatic = Modifier.isStatic(field.getModifiers());
            fields += isStatic ? 0 : 1;
            if (isStatic && !Modifier.isFinal(field.getModifiers())) {
                complain("static, and not final: " + field);
            }
        }
        if (fields > 20) {
            complain(fields + " fields in " + type);
        }
        if (type != SteeredClaims.class && !Modifier.isStatic(type.getModifiers())) {
            complain("not static: " + type);
        }
        for (Method method : type.getDeclaredMethods()) {
            if (method.getParameterCount() > 7) {
                complain("too many parameters: " + method);
            }
        }
        if (type != SteeredClaims.class && type.getDeclaredClasses().length != 0) {
            complain("classes inside " + type);
        }
    }

    private static void checkText(String source) {
        String code = source.replaceAll("(?s)/\\*.*?\\*/", "").replaceAll("//[^\n]*", "");
        for (String pattern : FORBIDDEN) {
            Matcher m = Pattern.compile(pattern).matcher(code);
            if (m.find()) {
                complain("the source has " + m.group());
            }
        }
        String[] lines = source.split("\n");
        int start = -1;
        Pattern head = Pattern.compile("^( {4}| {8})\\S.*\\) \\{$");
        for (int i = 0; i < lines.length; i++) {
            Matcher m = head.matcher(lines[i]);
            if (m.find() && !lines[i].matches(" *(if|for|while|switch|else|\\}).*")) {
                start = i;
            }
            if (start >= 0 && lines[i].matches("^( {4}| {8})\\}$") && i - start > 60) {
                complain("a method of " + (i - start) + " lines: " + lines[start]);
            }
        }
    }
}

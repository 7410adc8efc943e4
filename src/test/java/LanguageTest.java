import java.lang.reflect.Constructor;
import java.lang.reflect.Field;
import java.lang.reflect.Method;
import java.lang.reflect.Modifier;
import java.nio.file.Files;
import java.nio.file.Path;
import java.util.ArrayList;
import java.util.Arrays;
import java.util.List;
import java.util.Set;
import java.util.TreeSet;
import java.util.regex.Matcher;
import java.util.regex.Pattern;

/** Checks those rules of LANGUAGE.md that can be seen from the class file or from the text of the source. */
public final class LanguageTest {
    private static final String[] FACE = {
        "type 1", "wipe 0", "function 2", "ofFunction 2", "body 3", "claim 0", "side 2", "anew 0", "value 4", "holds 3",
        "counter 1", "normal 2", "scheme 1", "difference 0", "steered 1", "common 1", "general 2", "prove 0", "why 1",
        "script 2", "lemma 3", "tested 2", "back 0", "many 1"
    };
    private static final String[] FORBIDDEN = {
        "\\b(throws?|try|catch|synchronized|assert|import|package|protected|transient|volatile|native|var|yield)\\b",
        "\\b(Object|Thread|hashCode|toString)\\b", "\\bequals\\s*\\(", "Exception", "Exact\\b", "->", "::",
        "static\\s*\\{", "while\\s*\\(\\s*true", "for\\s*\\([^;]*;\\s*;"
    };

    private static int wrong = 0;

    public static void main(String[] args) throws Exception {
        checkFace();
        List<Class<?>> classes = new ArrayList<>(List.of(SteeredClaims.class));
        classes.addAll(Arrays.asList(SteeredClaims.class.getDeclaredClasses()));
        classes.forEach(LanguageTest::checkClass);
        if (classes.size() > 12) {
            complain(classes.size() + " classes");
        }
        checkText(Files.readString(Path.of(args[0])));
        if (wrong != 0) {
            System.exit(1);
        }
    }

    private static void complain(String what) {
        wrong++;
        System.out.println(what);
    }

    private static void checkFace() {
        Set<String> methods = new TreeSet<>();
        Set<String> hidden = new TreeSet<>();
        for (Method method : SteeredClaims.class.getDeclaredMethods()) {
            if (Modifier.isPublic(method.getModifiers())) {
                methods.add(method.getName() + " " + method.getParameterCount());
                if (method.getReturnType() != int.class || Modifier.isStatic(method.getModifiers())) {
                    complain("the kind of " + method);
                }
            } else {
                hidden.add(method.getName());
                if (!Modifier.isPrivate(method.getModifiers())) {
                    complain("not private: " + method);
                }
            }
        }
        if (!methods.equals(new TreeSet<>(Arrays.asList(FACE)))) {
            complain("the public methods are " + methods);
        }
        for (String row : FACE) {
            if (hidden.contains(row.substring(0, row.indexOf(' ')))) {
                complain("a private method bears the name of a public one: " + row);
            }
        }
        for (Class<?> inside : SteeredClaims.class.getDeclaredClasses()) {
            for (Method method : inside.getDeclaredMethods()) {
                if (Arrays.stream(FACE).anyMatch(row -> row.startsWith(method.getName() + " "))) {
                    complain("a method inside bears the name of a public one: " + method);
                }
            }
        }
        Set<String> constants = new TreeSet<>();
        for (Field field : SteeredClaims.class.getDeclaredFields()) {
            if (!Modifier.isPrivate(field.getModifiers())) {
                constants.add(field.getName());
            }
        }
        if (!constants.equals(Set.of("UNKNOWN", "OUTSIDE", "STATE", "FULL", "NONE"))) {
            complain("the visible fields are " + constants);
        }
        Constructor<?>[] constructors = SteeredClaims.class.getDeclaredConstructors();
        if (constructors.length != 1 || constructors[0].getParameterCount() != 0
                || !Modifier.isPublic(constructors[0].getModifiers()) || !Modifier.isFinal(SteeredClaims.class.getModifiers())) {
            complain("the constructor, or the class");
        }
    }

    private static void checkClass(Class<?> type) {
        int fields = 0;
        for (Field field : type.getDeclaredFields()) {
            boolean isStatic = Modifier.isStatic(field.getModifiers());
            fields += isStatic ? 0 : 1;
            if (isStatic && !Modifier.isFinal(field.getModifiers())) {
                complain("static, and not final: " + field);
            }
        }
        if (fields > 20) {
            complain(fields + " fields in " + type);
        }
        if (type != SteeredClaims.class && !Modifier.isStatic(type.getModifiers())) {
            complain("not static: " + type);
        }
        for (Method method : type.getDeclaredMethods()) {
            if (method.getParameterCount() > 7) {
                complain("too many parameters: " + method);
            }
        }
        if (type != SteeredClaims.class && type.getDeclaredClasses().length != 0) {
            complain("classes inside " + type);
        }
    }

    private static void checkText(String source) {
        String code = source.replaceAll("(?s)/\\*.*?\\*/", "").replaceAll("//[^\n]*", "");
        for (String pattern : FORBIDDEN) {
            Matcher m = Pattern.compile(pattern).matcher(code);
            if (m.find()) {
                complain("the source has " + m.group());
            }
        }
        String[] lines = source.split("\n");
        int start = -1;
        Pattern head = Pattern.compile("^( {4}| {8})\\S.*\\) \\{$");
        for (int i = 0; i < lines.length; i++) {
            Matcher m = head.matcher(lines[i]);
            if (m.find() && !lines[i].matches(" *(if|for|while|switch|else|\\}).*")) {
                start = i;
            }
            if (start >= 0 && lines[i].matches("^( {4}| {8})\\}$") && i - start > 60) {
                complain("a method of " + (i - start) + " lines: " + lines[start]);
            }
        }
    }
}

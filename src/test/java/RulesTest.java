import java.io.IOException;
import java.lang.reflect.Field;
import java.lang.reflect.Method;
import java.lang.reflect.Modifier;
import java.nio.file.Files;
import java.nio.file.Path;
import java.util.ArrayList;
import java.util.List;
import java.util.Set;
import java.util.TreeSet;
import java.util.regex.Matcher;
import java.util.regex.Pattern;

/** Those rules of LANGUAGE.md that can be seen from outside. */
public final class RulesTest {
    /** Words that the rules leave out of the program's code. */
    private static final String[] WORDS = {"catch", "try", "throw", "finally", "synchronized",
        "assert", "import", "package", "Double", "Float", "Object", "System\\.out", "Exact",
        "->", "::", "strictfp", "native", "protected", "NaN"};
    private static final int LONGEST_METHOD = 60;

    private static final List<String> faults = new ArrayList<>();
    private static final Set<String> publicNames = new TreeSet<>();

    public static void main(String[] args) throws IOException {
        outside();
        for (Class<?> inside : MotionStepper.class.getDeclaredClasses()) {
            inside(inside);
        }
        if (MotionStepper.class.getDeclaredClasses().length > 12) {
            faults.add("more than twelve classes");
        }
        String source = Files.readString(Path.of("src/main/java/MotionStepper.java"));
        String code = withoutComments(source);
        for (String word : WORDS) {
            Matcher found = Pattern.compile(word.matches("\\w+") ? "\\b" + word + "\\b" : word).matcher(code);
            if (found.find()) {
                faults.add("the program uses " + word);
            }
        }
        methodLengths(code);
        for (String fault : faults) {
            System.out.println(fault);
        }
        System.exit(faults.isEmpty() ? 0 : 1);
    }

    private static String withoutComments(String source) {
        return source.replaceAll("(?s)/\\*.*?\\*/", "").replaceAll("//[^\n]*", "");
    }

    private static void outside() {
        for (Method method : MotionStepper.class.getDeclaredMethods()) {
            if (Modifier.isPublic(method.getModifiers())) {
                publicNames.add(method.getName());
            }
        }
        members(MotionStepper.class);
    }

    private static void inside(Class<?> inside) {
        if (!Modifier.isStatic(inside.getModifiers()) || Modifier.isPublic(inside.getModifiers())) {
            faults.add("not static, or public: " + inside);
        }
        for (Method method : inside.getDeclaredMethods()) {
            if (Modifier.isPrivate(method.getModifiers()) && publicNames.contains(method.getName())) {
                faults.add("bears a public name: " + method);
            }
        }
        members(inside);
    }

    private static void members(Class<?> type) {
        int fields = 0;
        for (Field field : type.getDeclaredFields()) {
            boolean isStatic = Modifier.isStatic(field.getModifiers());
            fields += isStatic ? 0 : 1;
            Class<?> of = field.getType();
            boolean allowed = of == int.class || of == long.class || of == int[].class;
            if (isStatic && (!Modifier.isFinal(field.getModifiers()) || !allowed)) {
                faults.add("a static field that may not be: " + field);
            }
        }
        if (fields > 20) {
            faults.add("more than twenty fields: " + type);
        }
        for (Method method : type.getDeclaredMethods()) {
            if (method.getParameterCount() > 7) {
                faults.add("more than seven parameters: " + method);
            }
            boolean isPrivate = Modifier.isPrivate(method.getModifiers());
            if (type == MotionStepper.class && isPrivate && publicNames.contains(method.getName())) {
                faults.add("bears a public name: " + method);
            }
        }
    }

    private static void methodLengths(String code) {
        String[] lines = code.split("\n");
        int start = -1;
        String end = "";
        for (int i = 0; i < lines.length; i++) {
            Matcher head = Pattern.compile("^( +)[^=;]*\\)? ?\\{$").matcher(lines[i]);
            if (start < 0 && head.matches() && lines[i].contains("(")) {
                start = i;
                end = head.group(1) + "}";
            }
            if (start >= 0 && lines[i].equals(end)) {
                if (i - start + 1 > LONGEST_METHOD) {
                    faults.add("too long: " + lines[start].trim());
                }
                start = -1;
            }
        }
    }
}

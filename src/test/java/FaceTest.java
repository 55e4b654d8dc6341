import java.io.IOException;
import java.lang.reflect.Constructor;
import java.lang.reflect.Field;
import java.lang.reflect.Method;
import java.lang.reflect.Modifier;
import java.nio.file.Files;
import java.nio.file.Path;
import java.util.ArrayList;
import java.util.List;

/** The public face, as the document writes it and as each promise names its call. */
public final class FaceTest {
    private static final Path SOURCE = Path.of("src/main/java/MotionStepper.java");
    private static final String[] CONSTANTS = {
        "int NUMBER = -1", "int STATE = -2", "int FULL = -3", "int WILD = -4", "int SMALL = -5",
        "long NONE = 0x7FF8000000000000L"};
    /** The calls of promises 2 to 27. */
    private static final String[] CALLS = {
        "int law(int n, int narrow)",
        "int constant(int l, long n, int k)",
        "int node(int l, int kind, int a, int b, int c)",
        "int side(int l, int i, int q)",
        "int signal(int how)",
        "int point(int s, long t, long v, int k)",
        "int many(int what)",
        "int run(int l, long n, int k)",
        "int set(int r, int i, long n, int k)",
        "int method(int r, int m)",
        "int length(int r, long n, int k)",
        "int tolerance(int r, long a, long b, int k)",
        "int event(int r, int q, int direction, int action, int w)",
        "int step(int r)",
        "int to(int r, long n, int k, int most)",
        "long state(int r, int i)",
        "long clock(int r, int what)",
        "int count(int r, int what)",
        "long stage(int r, int j, int i)",
        "long value(int r, int q)",
        "long between(int r, int i, long n, int k)",
        "long fired(int r, int j, int what)",
        "long halves(int r, int i)",
        "int keep(int r, int p)",
        "int back(int r, int p)",
        "int unlike(int r, int p)"};
    private static final String[] PARTS = {"laws", "runs", "kept runs"};
    /** The first call of each part. */
    private static final int[] STARTS = {0, 7, 23, CALLS.length};

    private static String source = "";

    public static void main(String[] args) {
        source = read();
        Edges.sentence("public final class MotionStepper {", FaceTest::ofTheClass);
        for (String constant : CONSTANTS) {
            Edges.sentence("public static final " + constant + ";", () -> dueConstant(constant));
        }
        Edges.sentence("public MotionStepper();", FaceTest::ofTheConstructor);
        for (String call : CALLS) {
            Edges.sentence("public " + call + ";", () -> dueCall(call));
        }
        for (int part = 0; part < PARTS.length; part++) {
            int which = part;
            Edges.sentence(saidAhead(part), () -> duePart(which));
        }
        Edges.sentence("Promise 1: A new object `MotionStepper()`:", FaceTest::ofTheConstructor);
        for (int i = 0; i < CALLS.length; i++) {
            String call = CALLS[i];
            Edges.sentence("Promise " + (2 + i) + ": " + nameOf(call) + " `" + call + "`:",
                () -> dueCall(call));
        }
        Edges.end();
    }

    private static String read() {
        try {
            return Files.readString(SOURCE);
        } catch (IOException e) {
            throw new IllegalStateException("no program at " + SOURCE, e);
        }
    }

    private static String nameOf(String call) {
        return call.substring(call.indexOf(' ') + 1, call.indexOf('('));
    }

    private static Class<?> typeOf(String words) {
        return words.startsWith("long ") ? long.class : int.class;
    }

    /** Public and final, and all that is public in it is on the document's face. */
    private static void ofTheClass() {
        int modifiers = MotionStepper.class.getModifiers();
        Edges.dueTrue("it is public", Modifier.isPublic(modifiers));
        Edges.dueTrue("it is final", Modifier.isFinal(modifiers));
        Edges.dueTrue("it has no package", MotionStepper.class.getPackageName().isEmpty());
        Edges.dueTrue("it is of no other class", MotionStepper.class.getSuperclass() == Object.class);
        Edges.due("its interfaces", MotionStepper.class.getInterfaces().length, 0);
        int calls = 0;
        for (Method method : MotionStepper.class.getDeclaredMethods()) {
            boolean isPublic = Modifier.isPublic(method.getModifiers());
            calls += isPublic ? 1 : 0;
            Edges.dueTrue("public or private: " + method,
                isPublic || Modifier.isPrivate(method.getModifiers()));
        }
        Edges.due("public methods", calls, CALLS.length);
        int constants = 0;
        for (Field field : MotionStepper.class.getDeclaredFields()) {
            boolean isPublic = Modifier.isPublic(field.getModifiers());
            constants += isPublic ? 1 : 0;
            Edges.dueTrue("public or private: " + field,
                isPublic || Modifier.isPrivate(field.getModifiers()));
        }
        Edges.due("public fields", constants, CONSTANTS.length);
        for (Class<?> inside : MotionStepper.class.getDeclaredClasses()) {
            Edges.dueTrue("not public: " + inside, !Modifier.isPublic(inside.getModifiers()));
        }
    }

    private static void ofTheConstructor() {
        Constructor<?>[] constructors = MotionStepper.class.getDeclaredConstructors();
        Edges.due("constructors", constructors.length, 1);
        for (Constructor<?> constructor : constructors) {
            Edges.dueTrue("it is public", Modifier.isPublic(constructor.getModifiers()));
            Edges.due("its parameters", constructor.getParameterCount(), 0);
            Edges.due("what it throws", constructor.getExceptionTypes().length, 0);
        }
        Edges.due("what it makes", new MotionStepper().many(0), 0);
    }

    private static void dueConstant(String constant) {
        String name = constant.substring(constant.indexOf(' ') + 1, constant.indexOf(" ="));
        String value = constant.substring(constant.indexOf("= ") + 2);
        long want = value.startsWith("0x")
            ? Long.parseLong(value.substring(2, value.length() - 1), 16) : Long.parseLong(value);
        try {
            Field field = MotionStepper.class.getField(name);
            int modifiers = field.getModifiers();
            Edges.dueTrue("static and final", Modifier.isStatic(modifiers) && Modifier.isFinal(modifiers));
            Edges.dueTrue("its type", field.getType() == typeOf(constant));
            Edges.due(name, field.getLong(null), want);
        } catch (ReflectiveOperationException e) {
            Edges.dueTrue(name + " is there", false);
        }
    }

    private static void dueCall(String call) {
        String[] parameters = call.substring(call.indexOf('(') + 1, call.length() - 1).split(", ");
        List<Class<?>> types = new ArrayList<>();
        for (String parameter : parameters) {
            types.add(typeOf(parameter));
        }
        try {
            Method method = MotionStepper.class.getMethod(nameOf(call), types.toArray(new Class<?>[0]));
            Edges.dueTrue("it is the object's own", !Modifier.isStatic(method.getModifiers()));
            Edges.dueTrue("what it answers", method.getReturnType() == typeOf(call));
            Edges.due("what it throws", method.getExceptionTypes().length, 0);
        } catch (NoSuchMethodException e) {
            Edges.dueTrue(nameOf(call) + " is there", false);
        }
        // The names of parameters are in the source alone.
        Edges.dueTrue("as it is written", source.contains("    public " + call + " {\n"));
    }

    private static String saidAhead(int part) {
        StringBuilder words = new StringBuilder("Ahead of the calls ");
        for (int i = STARTS[part]; i < STARTS[part + 1]; i++) {
            words.append(i == STARTS[part] ? "`" : ", `").append(nameOf(CALLS[i])).append('`');
        }
        return words + " the interface says: ---- " + PARTS[part] + ".";
    }

    /** The part's calls stand behind its line, and ahead of the next one. */
    private static void duePart(int part) {
        int start = source.indexOf("    // ---- " + PARTS[part] + "\n");
        int end = source.indexOf("    // ---- ", start + 1);
        Edges.dueTrue("the line is there", start >= 0);
        Edges.dueTrue("there is a line behind it", end > start);
        int before = start;
        for (int i = STARTS[part]; i < STARTS[part + 1]; i++) {
            int at = source.indexOf("    public " + CALLS[i] + " {\n");
            Edges.dueTrue(nameOf(CALLS[i]) + " is in its place", at > before && at < end);
            before = at;
        }
    }
}

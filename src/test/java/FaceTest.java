import java.io.IOException;
import java.lang.reflect.Constructor;
import java.lang.reflect.Field;
import java.lang.reflect.Method;
import java.lang.reflect.Modifier;
import java.nio.file.Files;
import java.nio.file.Path;
import java.util.TreeSet;
import java.util.regex.Matcher;
import java.util.regex.Pattern;

/** The public face of the document, and the rules of LANGUAGE.md that can be told by looking. */
public final class FaceTest {
    private static final String METHODS = "int apply(int,int,int,int) int backs() int branch(int,int) "
        + "int digest() int drop() int ending() int halt() int jump(int) int kinds() int out(int) "
        + "int output(int) int outs() int simple(int,int,int) int size() int start(int,int) void clear()";
    private static final String OUTSIDE_WORDS = "import|package|float|double|String|Math|Integer|Long|"
        + "System|Arrays|Object|null|throw|throws|try|catch|synchronized|assert|instanceof|"
        + "enum|interface|record";

    public static void main(String[] args) throws IOException {
        constants();
        members();
        fields();
        words();
        Check.end();
    }

    private static void constants() {
        Check.due("BAD_ARG", FlowOptimiser.BAD_ARG, -1);
        Check.due("FULL", FlowOptimiser.FULL, -2);
        Check.due("NONE", FlowOptimiser.NONE, -4);
        Check.due("HALTED", FlowOptimiser.HALTED, 0);
        Check.due("FULL_UP", FlowOptimiser.FULL_UP, 1);
        Check.due("TIRED", FlowOptimiser.TIRED, 2);
    }

    private static void members() {
        Class<?> face = FlowOptimiser.class;
        Check.dueText("the class", Modifier.toString(face.getModifiers()), "public final");
        Check.due("nested classes", face.getDeclaredClasses().length, 0);
        Constructor<?>[] constructors = face.getDeclaredConstructors();
        Check.due("constructors", constructors.length, 1);
        Check.dueText("the constructor", constructors[0].toString(), "public FlowOptimiser()");
        TreeSet<String> seen = new TreeSet<>();
        TreeSet<String> publicNames = new TreeSet<>();
        for (Method method : face.getDeclaredMethods()) {
            if (!Modifier.isPrivate(method.getModifiers())) {
                Check.dueText(method.getName(), Modifier.toString(method.getModifiers()), "public");
                String shown = method.toString().replace("public ", "").replace("FlowOptimiser.", "");
                seen.add(shown);
                publicNames.add(method.getName());
            }
        }
        Check.dueText("the methods", String.join(" ", seen), METHODS);
        for (Method method : face.getDeclaredMethods()) {
            boolean hides = Modifier.isPrivate(method.getModifiers()) && publicNames.contains(method.getName());
            Check.due("private " + method.getName() + " with a public name", hides ? 1 : 0, 0);
            Check.due("parameters of " + method.getName() + " above 7", Math.max(method.getParameterCount(), 7), 7);
            Check.due(method.getName() + " answers an array", method.getReturnType().isArray() ? 1 : 0, 0);
        }
    }

    private static void fields() {
        TreeSet<String> seen = new TreeSet<>();
        int held = 0;
        for (Field field : FlowOptimiser.class.getDeclaredFields()) {
            int modifiers = field.getModifiers();
            if (!Modifier.isPrivate(modifiers)) {
                Check.dueText(field.getName(), Modifier.toString(modifiers), "public static final");
                seen.add(field.getName());
            }
            Class<?> type = field.getType();
            if (Modifier.isStatic(modifiers)) {
                boolean constant = Modifier.isFinal(modifiers) && (type == int.class || type == long.class);
                Check.due(field.getName() + " is a constant", constant ? 1 : 0, 1);
            } else {
                held++;
                boolean plain = type.isPrimitive() || type.getComponentType().isPrimitive();
                Check.due(field.getName() + " is of a plain type", plain ? 1 : 0, 1);
            }
        }
        Check.dueText("the constants", seen.toString(), "[BAD_ARG, FULL, FULL_UP, HALTED, NONE, TIRED]");
        Check.due("fields above 40", Math.max(held, 40), 40);
    }

    private static void words() throws IOException {
        String source = Files.readString(Path.of("src/main/java/FlowOptimiser.java"));
        String code = source.replaceAll("(?s)/\\*.*?\\*/", "").replaceAll("//[^\n]*", "");
        Matcher matcher = Pattern.compile("\\b(" + OUTSIDE_WORDS + ")\\b|->|::|\"").matcher(code);
        while (matcher.find()) {
            Check.dueText("a word of the program", matcher.group(), "one that LANGUAGE.md leaves");
        }
    }
}

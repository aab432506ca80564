import java.io.IOException;
import java.lang.reflect.Constructor;
import java.lang.reflect.Field;
import java.lang.reflect.Method;
import java.lang.reflect.Modifier;
import java.nio.file.Files;
import java.nio.file.Path;
import java.util.Arrays;
import java.util.Set;
import java.util.TreeSet;

/** The public face is the document's and nothing more; what reflection can see of the language's rules. */
public final class FaceTest {
    private static final String[] METHODS = {"int set(int,long)", "int feed(long,int)", "int read(int,int)",
        "int write(int,int)", "int out(int)", "long low(int)", "int limbs(int)", "long limb(int,int)",
        "int compare(int,int)", "int act(int,int,int,int)", "int over(int,int,int,int,int)", "int divisor(int,int,int)",
        "int power(int,int,int)", "int root(int,int,int)", "int rest(int,int,int,int)", "int inverse(int,int,int)",
        "int bits(int,int,int,int)", "int shift(int,int,int)", "int bit(int,int)", "int length(int)", "int ones(int)",
        "int ratio(int,int,int)", "int actRatio(int,int,int,int)", "int compareRatio(int,int)", "int part(int,int,int)",
        "int digits(int,int)", "int digit(int)"};
    private static final String[] CONSTANTS = {"BAD", "ZERO", "STATE", "NONE", "FULL", "WRONG"};
    private static final int[] VALUES = {-1, -2, -3, -4, -5, -10};

    public static void main(String[] args) throws IOException, ReflectiveOperationException {
        asWritten();
        theClass();
        methods();
        fields();
        inside();
        Due.end();
    }

    /** The lines of the document's face stand in the source in their order, each group behind its heading. */
    private static void asWritten() throws IOException {
        String document = Files.readString(Path.of("..", "shared", "DOC.md"));
        String source = Files.readString(Path.of("src", "main", "java", "WideWholes.java"));
        int start = document.indexOf("```java\n");
        int end = document.indexOf("```", start + 3);
        Due.due("the document has a face", start >= 0 && end > start, true);
        int at = 0;
        int calls = 0;
        for (String line : document.substring(start, end).split("\n")) {
            if (line.trim().startsWith("public ")) {
                at = placeBehind(source, headingAhead(document, line), at);
                at = placeBehind(source, line.contains("=") ? line : line.replace(";", " {"), at);
                calls++;
            }
        }
        Due.due("the class, its constants, its constructor and its calls", calls, 3 + METHODS.length);
    }

    /** The heading of the group that begins with this line; nothing, if none does. */
    private static String headingAhead(String document, String line) {
        String name = line.replaceFirst("\\(.*", "").replaceFirst(".* ", "");
        String words = "Ahead of the calls `" + name + "`";
        int from = document.indexOf(words);
        if (from < 0) {
            return "";
        }
        String sentence = document.substring(from, document.indexOf('\n', from));
        return sentence.replaceFirst(".* the interface says: ", "// ").replaceFirst("\\.$", "");
    }

    private static int placeBehind(String source, String words, int from) {
        int at = source.indexOf(words, from);
        Due.due("stands in its place: " + words, at >= 0, true);
        return at < 0 ? from : at + words.length();
    }

    private static void theClass() {
        int modifiers = WideWholes.class.getModifiers();
        Due.due("public and final", Modifier.isPublic(modifiers) && Modifier.isFinal(modifiers), true);
        Due.due("extends nothing", WideWholes.class.getSuperclass(), Object.class);
        Constructor<?>[] constructors = WideWholes.class.getDeclaredConstructors();
        Due.due("constructors", constructors.length, 1);
        Due.due("the constructor is public", Modifier.isPublic(constructors[0].getModifiers()), true);
        Due.due("the constructor takes nothing", constructors[0].getParameterCount(), 0);
    }

    private static void methods() {
        Set<String> due = new TreeSet<>(Arrays.asList(METHODS));
        Set<String> names = new TreeSet<>();
        Set<String> seen = new TreeSet<>();
        for (Method method : WideWholes.class.getDeclaredMethods()) {
            if (!Modifier.isPrivate(method.getModifiers())) {
                seen.add(shape(method));
                names.add(method.getName());
                boolean throwing = method.getExceptionTypes().length > 0;
                Due.due(method.getName() + " throws", throwing, method.getName().equals("out"));
                Due.due(method.getName() + " is public", Modifier.isPublic(method.getModifiers()), true);
                Due.due(method.getName() + " is static", Modifier.isStatic(method.getModifiers()), false);
            }
        }
        Due.due("the methods", seen, due);
        for (Method method : WideWholes.class.getDeclaredMethods()) {
            if (Modifier.isPrivate(method.getModifiers())) {
                Due.due("private " + method.getName(), names.contains(method.getName()), false);
            }
        }
    }

    private static String shape(Method method) {
        StringBuilder text = new StringBuilder(method.getReturnType() + " " + method.getName() + "(");
        for (Class<?> type : method.getParameterTypes()) {
            text.append(text.charAt(text.length() - 1) == '(' ? "" : ",").append(type);
        }
        return text.append(")").toString();
    }

    private static void fields() throws ReflectiveOperationException {
        Set<String> seen = new TreeSet<>();
        for (Field field : WideWholes.class.getDeclaredFields()) {
            if (!Modifier.isPrivate(field.getModifiers())) {
                seen.add(field.getName());
                int modifiers = field.getModifiers();
                boolean constant = Modifier.isPublic(modifiers) && Modifier.isStatic(modifiers) && Modifier.isFinal(modifiers);
                Due.due(field.getName() + " is a public constant", constant, true);
            }
        }
        Due.due("the constants", seen, new TreeSet<>(Arrays.asList(CONSTANTS)));
        for (int i = 0; i < CONSTANTS.length; i++) {
            Due.due(CONSTANTS[i], WideWholes.class.getField(CONSTANTS[i]).getInt(null), VALUES[i]);
        }
    }

    private static void inside() {
        Class<?>[] classes = WideWholes.class.getDeclaredClasses();
        Due.due("at most twelve classes", classes.length <= 11, true);
        for (Class<?> one : classes) {
            int modifiers = one.getModifiers();
            Due.due(one + " is static", Modifier.isStatic(modifiers), true);
            Due.due(one + " is hidden", Modifier.isPublic(modifiers) || Modifier.isProtected(modifiers), false);
            Due.due(one + " has at most twenty fields", one.getDeclaredFields().length <= 20, true);
            for (Field field : one.getDeclaredFields()) {
                boolean free = Modifier.isStatic(field.getModifiers()) && !Modifier.isFinal(field.getModifiers());
                Due.due(one + "." + field.getName() + " is static state", free, false);
            }
            for (Method method : one.getDeclaredMethods()) {
                Due.due(method + " has at most seven parameters", method.getParameterCount() <= 7, true);
            }
        }
    }
}

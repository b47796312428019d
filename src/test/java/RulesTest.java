import java.lang.reflect.Constructor;
import java.lang.reflect.Field;
import java.lang.reflect.Method;
import java.lang.reflect.Modifier;
import java.nio.file.Files;
import java.nio.file.Path;
import java.util.Arrays;
import java.util.List;
import java.util.Set;
import java.util.TreeSet;
import java.util.regex.Matcher;
import java.util.regex.Pattern;

/** The document's face, and the rules of the language that can be seen in the program's text. */
public final class RulesTest {
    private static final Due due = new Due();
    private static final List<String> FACE = List.of(
            "triple 3", "drop 3", "shape 1", "severity 2", "target 3", "constraint 4", "run 0", "result 2",
            "worst 1", "fits 2", "focus 2", "value 3", "isOf 2", "count 1");

    public static void main(String[] args) throws Exception {
        face();
        text();
        due.end();
    }

    private static void face() {
        Class<?> type = ShaclSteps.class;
        due.holds("public and final", type.getModifiers() == (Modifier.PUBLIC | Modifier.FINAL));
        Set<String> methods = new TreeSet<>();
        for (Method m : type.getDeclaredMethods()) {
            if (Modifier.isPrivate(m.getModifiers())) {
                due.holds("private method with a public name: " + m.getName(),
                        FACE.stream().noneMatch(f -> f.startsWith(m.getName() + " ")));
            } else {
                methods.add(m.getName() + " " + m.getParameterCount());
                due.holds(m.getName() + " is public, not static, and answers an int", m.getModifiers() == Modifier.PUBLIC
                        && m.getReturnType() == int.class
                        && Arrays.stream(m.getParameterTypes()).allMatch(t -> t == int.class));
            }
            due.holds(m.getName() + " has at most seven parameters", m.getParameterCount() <= 7);
        }
        due.holds("the methods of the document: " + methods, methods.equals(new TreeSet<>(FACE)));
        Set<String> fields = new TreeSet<>();
        for (Field f : type.getDeclaredFields()) {
            if (!Modifier.isPrivate(f.getModifiers())) {
                fields.add(f.getName());
            }
            due.holds(f.getName() + " is final", Modifier.isFinal(f.getModifiers()));
        }
        due.holds("the constants of the document: " + fields, fields.equals(Set.of("BAD", "NO", "FULL", "LARGE")));
        Constructor<?>[] constructors = type.getDeclaredConstructors();
        due.holds("one constructor, public and without parameters", constructors.length == 1
                && constructors[0].getModifiers() == Modifier.PUBLIC && constructors[0].getParameterCount() == 0);
        for (Class<?> inside : type.getDeclaredClasses()) {
            int modifiers = inside.getModifiers();
            due.holds(inside + " is static and not public",
                    Modifier.isStatic(modifiers) && !Modifier.isPublic(modifiers) && !Modifier.isProtected(modifiers));
            long fieldsOfIt = Arrays.stream(inside.getDeclaredFields()).filter(f -> !Modifier.isStatic(f.getModifiers())).count();
            due.holds(inside + " has at most twenty fields", fieldsOfIt <= 20);
            for (Method m : inside.getDeclaredMethods()) {
                due.holds("method inside with a public name: " + m.getName(),
                        FACE.stream().noneMatch(f -> f.startsWith(m.getName() + " ")));
                due.holds(m.getName() + " has at most seven parameters", m.getParameterCount() <= 7);
            }
        }
    }

    private static void text() throws Exception {
        String whole = Files.readString(Path.of("src/main/java/ShaclSteps.java"));
        String code = whole.replaceAll("(?s)/\\*.*?\\*/", " ").replaceAll("//[^\n]*", " ");
        String[] without = {
            "throw", "throws", "try", "catch", "synchronized", "assert", "package", "import", "System", "Thread",
            "hashCode", "toString", "equals", "Object", "instanceof", "volatile", "native", "null"};
        for (String word : without) {
            due.holds("without " + word, !Pattern.compile("\\b" + word + "\\b").matcher(code).find());
        }
        due.holds("without lambdas and method references", !code.contains("->") && !code.contains("::"));
        due.holds("without static blocks", !Pattern.compile("static\\s*\\{").matcher(code).find());
        Matcher method = Pattern.compile("(?ms)^( {4}| {8})(?:public|private) [^;={]*\\([^)]*\\) \\{$.*?^\\1\\}$").matcher(code);
        int methods = 0;
        while (method.find()) {
            methods++;
            due.holds("at most sixty lines: " + method.group().lines().findFirst().orElse(""),
                    method.group().lines().count() <= 60);
            boolean makes = Pattern.compile("\\bnew\\b").matcher(method.group()).find();
            due.holds("nothing is made but by the constructor: " + method.group().lines().findFirst().orElse(""),
                    !makes || method.group().contains("public ShaclSteps()"));
        }
        due.holds("methods were found: " + methods, methods > 40);
    }
}

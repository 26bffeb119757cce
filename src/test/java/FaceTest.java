import java.lang.reflect.Constructor;
import java.lang.reflect.Field;
import java.lang.reflect.Method;
import java.lang.reflect.Modifier;
import java.nio.file.Files;
import java.nio.file.Path;
import java.util.Arrays;
import java.util.HashSet;
import java.util.List;
import java.util.Set;
import java.util.TreeSet;

/** The class has just the face that the document tells, and some rules of the language hold for its text. */
public final class FaceTest {
    private static final Check check = new Check();

    public static void main(String[] args) throws Exception {
        String document = Files.readString(Path.of("../shared/DOC.md"));
        Set<String> due = new TreeSet<>();
        String face = document.substring(document.indexOf("```java"), document.lastIndexOf("```"));
        for (String line : face.split("\n")) {
            String text = line.trim();
            if (text.startsWith("public ") && text.endsWith(";")) {
                due.add(withoutNames(text.substring(0, text.length() - 1)));
            }
        }
        check.due("the face", String.join("\n", found()), String.join("\n", due));
        check.due("calls of the face", due.size(), 44);
        check.due("final", Modifier.isFinal(Hintworks.class.getModifiers()), true);
        members();
        sizes(Hintworks.class);
        Arrays.stream(Hintworks.class.getDeclaredClasses()).forEach(FaceTest::sizes);
        text();
        check.end();
    }

    private static String withoutNames(String call) {
        int end = call.indexOf(')');
        return call.substring(0, end).replaceAll("(\\w+) \\w+(?=,|$)", "$1") + call.substring(end);
    }

    private static Set<String> found() {
        Set<String> found = new TreeSet<>();
        for (Constructor<?> one : Hintworks.class.getConstructors()) {
            found.add("public " + one.getName() + "(" + names(one.getParameterTypes()) + ")");
        }
        for (Method one : Hintworks.class.getDeclaredMethods()) {
            if (Modifier.isPublic(one.getModifiers())) {
                String thrown = names(one.getExceptionTypes());
                found.add("public " + one.getReturnType() + " " + one.getName() + "("
                        + names(one.getParameterTypes()) + ")" + (thrown.isEmpty() ? "" : " throws " + thrown));
            }
        }
        return found;
    }

    private static String names(Class<?>[] types) {
        return String.join(", ", Arrays.stream(types).map(Class::getSimpleName).toList());
    }

    private static void members() {
        Set<String> open = new HashSet<>();
        for (Method one : Hintworks.class.getDeclaredMethods()) {
            boolean isOpen = Modifier.isPublic(one.getModifiers());
            check.due("public or private: " + one.getName(), isOpen || Modifier.isPrivate(one.getModifiers()), true);
            if (isOpen) {
                open.add(one.getName());
            }
        }
        for (Method one : Hintworks.class.getDeclaredMethods()) {
            boolean hides = Modifier.isPrivate(one.getModifiers()) && open.contains(one.getName());
            check.due("private with a public name: " + one.getName(), hides, false);
        }
        Arrays.stream(Hintworks.class.getDeclaredFields())
                .forEach(one -> check.due("private: " + one.getName(), Modifier.isPrivate(one.getModifiers()), true));
        for (Class<?> inside : Hintworks.class.getDeclaredClasses()) {
            check.due("static: " + inside.getName(), Modifier.isStatic(inside.getModifiers()), true);
        }
        check.due("at most twelve classes", Hintworks.class.getDeclaredClasses().length < 12, true);
    }

    private static void sizes(Class<?> one) {
        int fields = 0;
        for (Field field : one.getDeclaredFields()) {
            boolean isStatic = Modifier.isStatic(field.getModifiers());
            fields += isStatic ? 0 : 1;
            boolean isOpen = isStatic && !Modifier.isFinal(field.getModifiers());
            check.due("a static field that can change: " + field.getName(), isOpen, false);
        }
        check.due("at most twenty fields in " + one.getName(), fields <= 20, true);
        for (Method method : one.getDeclaredMethods()) {
            check.due("parameters of " + method.getName(), method.getParameterCount() <= 7, true);
        }
    }

    private static void text() throws Exception {
        String text = Files.readString(Path.of("src/main/java/Hintworks.java"));
        List<String> ruledOut = List.of("catch", "finally", "synchronized", "assert ", "->", "::", "toString",
                "hashCode", "System.out", "Random", "Thread", "package ",
                "static {", "record ", "Exact(");
        for (String word : ruledOut) {
            check.due("the text holds " + word, text.contains(word), false);
        }
        check.due("signs 1 to 127", text.chars().allMatch(sign -> sign < 128), true);
    }
}

import java.io.IOException;
import java.lang.reflect.Constructor;
import java.lang.reflect.Field;
import java.lang.reflect.Method;
import java.lang.reflect.Modifier;
import java.nio.file.Files;
import java.nio.file.Path;
import java.util.ArrayList;
import java.util.List;
import java.util.Set;
import java.util.TreeSet;
import java.util.regex.Matcher;
import java.util.regex.Pattern;

/** The public face is the document's, as ../shared/DOC.md writes it, and nothing else can be seen from outside. */
public final class FaceTest {
    private static final Check check = new Check();

    public static void main(String[] args) throws IOException {
        Set<String> due = documentedMethods();
        Set<String> found = new TreeSet<>();
        List<String> hiddenWithPublicName = new ArrayList<>();
        for (Method method : SnowLedger.class.getDeclaredMethods()) {
            if (Modifier.isPublic(method.getModifiers())) {
                found.add(signature(method));
            } else {
                check.due("private: " + method, true, () -> Modifier.isPrivate(method.getModifiers()));
            }
        }
        check.due("methods", due.toString(), () -> found.toString());
        check.due("methods in the document", 54, () -> due.size());
        checkHiddenNames(hiddenWithPublicName);
        check.due("hidden methods with a public name", "[]", () -> hiddenWithPublicName.toString());
        checkFieldsAndConstructors();
        check.end();
    }

    private static Set<String> documentedMethods() throws IOException {
        Set<String> methods = new TreeSet<>();
        Pattern line = Pattern.compile("^    public (\\w+) (\\w+)\\(([^)]*)\\)( throws ([^;]+))?;$");
        for (String text : Files.readAllLines(Path.of("../shared/DOC.md"))) {
            Matcher matcher = line.matcher(text);
            if (matcher.matches()) {
                String types = matcher.group(3).replaceAll("(\\w+) \\w+", "$1");
                String thrown = matcher.group(5) == null ? "" : matcher.group(5);
                methods.add(matcher.group(1) + " " + matcher.group(2) + "(" + types + ") " + thrown);
            }
        }
        return methods;
    }

    private static String signature(Method method) {
        return method.getReturnType().getSimpleName() + " " + method.getName()
                + "(" + names(method.getParameterTypes()) + ") " + names(method.getExceptionTypes());
    }

    private static String names(Class<?>[] types) {
        List<String> names = new ArrayList<>();
        for (Class<?> type : types) {
            names.add(type.getSimpleName());
        }
        return String.join(", ", names);
    }

    private static void checkHiddenNames(List<String> wrong) {
        Set<String> publicNames = new TreeSet<>();
        for (Method method : SnowLedger.class.getDeclaredMethods()) {
            if (Modifier.isPublic(method.getModifiers())) {
                publicNames.add(method.getName());
            }
        }
        for (Class<?> inner : SnowLedger.class.getDeclaredClasses()) {
            check.due("hidden and static: " + inner, true, () -> !Modifier.isPublic(inner.getModifiers())
                    && !Modifier.isProtected(inner.getModifiers()) && Modifier.isStatic(inner.getModifiers()));
            for (Method method : inner.getDeclaredMethods()) {
                if (Modifier.isPrivate(method.getModifiers()) && publicNames.contains(method.getName())) {
                    wrong.add(method.toString());
                }
            }
        }
        for (Method method : SnowLedger.class.getDeclaredMethods()) {
            if (!Modifier.isPublic(method.getModifiers()) && publicNames.contains(method.getName())) {
                wrong.add(method.toString());
            }
        }
    }

    private static void checkFieldsAndConstructors() {
        check.due("final and public", true, () -> Modifier.isFinal(SnowLedger.class.getModifiers())
                && Modifier.isPublic(SnowLedger.class.getModifiers()));
        check.due("no package", "", () -> SnowLedger.class.getPackageName());
        for (Field field : SnowLedger.class.getDeclaredFields()) {
            check.due("private: " + field, true, () -> Modifier.isPrivate(field.getModifiers()));
            check.due("static only if final: " + field, true, () -> !Modifier.isStatic(field.getModifiers())
                    || Modifier.isFinal(field.getModifiers()));
        }
        Constructor<?>[] constructors = SnowLedger.class.getDeclaredConstructors();
        check.due("constructors", 1, () -> constructors.length);
        check.due("the constructor", true, () -> Modifier.isPublic(constructors[0].getModifiers())
                && constructors[0].getParameterCount() == 0);
    }
}

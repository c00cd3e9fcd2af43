import java.io.IOException;
import java.lang.reflect.InvocationTargetException;
import java.lang.reflect.Method;
import java.util.Arrays;
import java.util.Comparator;
import java.util.HashSet;
import java.util.List;
import java.util.Set;

/**
 * Runs the tests that stand for single sentences of ../shared/DOC.md, and sees to it that each sentence has one and
 * that each names a sentence that stands there.
 */
public final class SentencesTest {
    private static final List<Class<?>> GROUPS = List.of(OpeningSentences.class, TermSentences.class,
            ScriptSentences.class, ChangeSentences.class, CallSentences.class, UntouchedSentences.class,
            BlockSentences.class, TreeSentences.class, HillSentences.class, TextSentences.class);
    /** Headings under which nothing stands that a call could break; FaceTest looks at the public face. */
    private static final Set<String> NOT_CALLED = Set.of("", "The public face", "Not promised");
    /** Nothing follows from these for a call of one thread's, as no number below zero is ever divided. */
    private static final Set<String> NOT_SEEN = Set.of("Terms: It is not thread-safe.",
            "Terms: All integer divisions round down.");

    private static final Check check = new Check();
    private static final Set<String> tested = new HashSet<>();
    private static Document document;

    public static void main(String[] args) throws IOException, IllegalAccessException {
        document = new Document();
        for (Class<?> group : GROUPS) {
            Method[] methods = group.getDeclaredMethods();
            Arrays.sort(methods, Comparator.comparing(Method::getName));
            for (Method method : methods) {
                if (method.isAnnotationPresent(Sentence.class)) {
                    run(method, method.getAnnotation(Sentence.class));
                }
            }
        }
        eachSentenceIsTested();
        System.out.println(tested.size() + " sentences tested");
        check.end();
    }

    private static void run(Method method, Sentence sentence) throws IllegalAccessException {
        for (String text : sentence.text()) {
            String plain = Document.plain(text);
            check.due(method.getName() + ": " + sentence.of() + " says: " + plain, true,
                    () -> document.under(sentence.of()).contains(plain));
            tested.add(sentence.of() + ": " + plain);
        }
        Check own = new Check(sentence.of() + ": " + Document.plain(sentence.text()[0]) + "\n    ");
        try {
            method.invoke(null, own);
        } catch (InvocationTargetException e) {
            own.due(method.getName(), "no exception", () -> e.getCause().toString());
        }
        check.due(method.getName() + " checks something", true, () -> own.checked() > 0);
        check.add(own);
    }

    private static void eachSentenceIsTested() {
        for (String heading : document.headings()) {
            for (String sentence : document.under(heading)) {
                String name = heading + ": " + sentence;
                check.due("a test of: " + name, true,
                        () -> NOT_CALLED.contains(heading) || NOT_SEEN.contains(name) || tested.contains(name));
            }
        }
    }
}

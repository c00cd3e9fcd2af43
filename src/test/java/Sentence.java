import java.lang.annotation.ElementType;
import java.lang.annotation.Retention;
import java.lang.annotation.RetentionPolicy;
import java.lang.annotation.Target;

/** Names the sentences of ../shared/DOC.md that a test stands for: one that would fail if they were broken. */
@Retention(RetentionPolicy.RUNTIME)
@Target(ElementType.METHOD)
@interface Sentence {
    /** The heading that they stand under, such as "Promise 2" or "Melting". */
    String of();

    /** The sentences, word by word. */
    String[] text();
}

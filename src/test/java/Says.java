import java.lang.annotation.ElementType;
import java.lang.annotation.Retention;
import java.lang.annotation.RetentionPolicy;
import java.lang.annotation.Target;

/** On a test: which words of which part of the document it would see broken. */
@Retention(RetentionPolicy.RUNTIME)
@Target(ElementType.METHOD)
@interface Says {
    /** "Promise 1" to "Promise 40", "Terms ERRORS", "Terms 1" to "Terms 6", or "What it is". */
    String in();

    /** A sentence there, or a part of one. */
    String words();
}

import java.lang.annotation.ElementType;
import java.lang.annotation.Retention;
import java.lang.annotation.RetentionPolicy;
import java.lang.annotation.Target;

/** Tells which words of the document a test looks at, and in which part of it they stand. */
@Retention(RetentionPolicy.RUNTIME)
@Target(ElementType.METHOD)
@interface Says {
    /** "Bounds" for the paragraph of the terms that begins so, "Promise 4" for a promise. */
    String in();

    String words();
}

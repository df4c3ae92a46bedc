import java.lang.annotation.ElementType;
import java.lang.annotation.Retention;
import java.lang.annotation.RetentionPolicy;
import java.lang.annotation.Target;

/** What the document says, word for word: the test that bears it fails if these words are broken. */
@Retention(RetentionPolicy.RUNTIME)
@Target(ElementType.METHOD)
@interface Says {
    /** The promise in whose section the words stand; 0 for the Terms. */
    int promise() default 0;

    String[] value();
}

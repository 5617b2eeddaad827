import java.lang.annotation.ElementType;
import java.lang.annotation.Retention;
import java.lang.annotation.RetentionPolicy;
import java.lang.annotation.Target;

/**
 * The words of the document, to the letter, that a test holds the class to. Where several promises end with like words,
 * they go on into the next heading, so that it is plain whose they are.
 */
@Retention(RetentionPolicy.RUNTIME)
@Target(ElementType.METHOD)
@interface Says {
    String value();
}

import java.lang.annotation.ElementType;
import java.lang.annotation.Retention;
import java.lang.annotation.RetentionPolicy;
import java.lang.annotation.Target;

/** The document's words that a test holds the class to, from the section that the test's name tells. */
@Retention(RetentionPolicy.RUNTIME)
@Target(ElementType.METHOD)
@interface Asks {
    String value();
}

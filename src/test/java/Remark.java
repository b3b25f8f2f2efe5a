import java.lang.annotation.ElementType;
import java.lang.annotation.Retention;
import java.lang.annotation.RetentionPolicy;
import java.lang.annotation.Target;

/**
 * Which sentence of the document a test holds the class against: the part ("What it is", "Promise 2", "Terms", "Terms 1" to "Terms 3"), ": " and
 * its words as they stand there (" .. " where some are left out). Bounds looks them up in the document.
 */
@Retention(RetentionPolicy.RUNTIME)
@Target(ElementType.METHOD)
@interface Remark {
    String value();
}

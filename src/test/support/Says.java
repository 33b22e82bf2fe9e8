import java.lang.annotation.ElementType;
import java.lang.annotation.Retention;
import java.lang.annotation.RetentionPolicy;
import java.lang.annotation.Target;

/** The words of the document to which a test holds the class. */
@Retention(RetentionPolicy.RUNTIME)
@Target(ElementType.METHOD)
@interface Says {
    /** Where the words stand: "Promise 2", or a heading of the Terms, such as "THE GAME". */
    String in();

    String[] words();
}

import java.lang.annotation.ElementType;
import java.lang.annotation.Retention;
import java.lang.annotation.RetentionPolicy;
import java.lang.annotation.Target;

/**
 * The words of the document that a test is of. Which part they stand in is told by the test's
 * name: promise3.. or section4.., and section0.. for what stands before the face. " .. " within
 * the words leaves some out.
 */
@Retention(RetentionPolicy.RUNTIME)
@Target(ElementType.METHOD)
@interface Says {
    String[] value();
}

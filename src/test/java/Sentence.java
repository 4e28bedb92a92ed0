import java.lang.annotation.ElementType;
import java.lang.annotation.Retention;
import java.lang.annotation.RetentionPolicy;
import java.lang.annotation.Target;

/** The words of the document that a test holds BedOffice to. */
@Retention(RetentionPolicy.RUNTIME)
@Target(ElementType.METHOD)
@interface Sentence {
    /** The words, as they stand there but for line ends. */
    String value();

    /** The promise that they are of; 0 for what stands ahead of the promises. */
    int promise() default 0;
}

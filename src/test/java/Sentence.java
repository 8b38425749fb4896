import java.lang.annotation.ElementType;
import java.lang.annotation.Retention;
import java.lang.annotation.RetentionPolicy;
import java.lang.annotation.Target;

/** The sentences of the document of which a test is, and the section in which they stand. */
@Retention(RetentionPolicy.RUNTIME)
@Target(ElementType.METHOD)
@interface Sentence {
    /** "Promise 7", or the name of a section of the Description, as "LABELS". */
    String in();

    /** As the document writes them, without its backticks. */
    String[] says();
}

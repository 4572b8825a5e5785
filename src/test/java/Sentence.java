import java.lang.annotation.ElementType;
import java.lang.annotation.Retention;
import java.lang.annotation.RetentionPolicy;
import java.lang.annotation.Target;

/** The sentences of the document whose boundaries a test is about, word by word, and the section that has them. */
@Retention(RetentionPolicy.RUNTIME)
@Target(ElementType.METHOD)
@interface Sentence {
    /** The beginning of the heading: "Description", or "Promise" and its number. */
    String of();

    String[] says();
}

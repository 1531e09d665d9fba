import java.lang.annotation.ElementType;
import java.lang.annotation.Retention;
import java.lang.annotation.RetentionPolicy;
import java.lang.annotation.Target;

/** The words of ../shared/DOC.md that a test holds the class to. */
@Retention(RetentionPolicy.RUNTIME)
@Target(ElementType.METHOD)
@interface Sentence {
    /** "What it is", "Terms" (ahead of its part 1), "Terms 1" to "Terms 4", "Promise 1" to "Promise 41". */
    String at();

    /** As they stand there, and only once; breaks of lines are blanks. */
    String words();
}

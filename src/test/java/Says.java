import java.lang.annotation.ElementType;
import java.lang.annotation.Retention;
import java.lang.annotation.RetentionPolicy;
import java.lang.annotation.Target;

/** Names the sentence of ../shared/DOC.md that a test holds the class to, its heading, and the edge that is tried. */
@Retention(RetentionPolicy.RUNTIME)
@Target(ElementType.METHOD)
@interface Says {
    /** "Terms", "Promise 2" and so on: the heading up to its colon. */
    String where();

    /** Words of the document, one behind the other as they stand there. */
    String sentence();

    /** Which boundary case of the sentence. */
    String edge();
}

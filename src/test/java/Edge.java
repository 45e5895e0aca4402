import java.lang.annotation.ElementType;
import java.lang.annotation.Retention;
import java.lang.annotation.RetentionPolicy;
import java.lang.annotation.Target;

/** A test of one sentence of the document: the promise in which it shows, and the sentence's own words. */
@Retention(RetentionPolicy.RUNTIME)
@Target(ElementType.METHOD)
@interface Edge {
    int promise();

    String says();

    /** Breaks of the sentence, in pairs: a piece that stands once in the class, and what stands there instead. */
    String[] broken();
}

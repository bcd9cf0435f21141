import java.lang.annotation.Retention;
import java.lang.annotation.RetentionPolicy;

/** Marks the test of one sentence of the document that names a boundary case. */
@Retention(RetentionPolicy.RUNTIME)
@interface Edge {
    int promise();

    /** The sentence, or the part of it that names the case, in the document's own words. */
    String says();
}

import java.lang.annotation.Retention;
import java.lang.annotation.RetentionPolicy;

/** Marks the test of one sentence of the document. */
@Retention(RetentionPolicy.RUNTIME)
@interface Edge {
    int promise();

    /** The sentence, or the part of it that is tested, in the document's own words. */
    String says();
}

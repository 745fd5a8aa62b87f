import java.lang.annotation.Retention;
import java.lang.annotation.RetentionPolicy;

/** Of which part of the document a test is, and the words there that it would find broken. */
@Retention(RetentionPolicy.RUNTIME)
@interface Sentence {
    String of();

    String says();
}

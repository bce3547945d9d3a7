import java.lang.annotation.Retention;
import java.lang.annotation.RetentionPolicy;

/** Which sentence of ../shared/DOC.md a test is of: where it stands ("II", "Promise 5"), and its words. */
@Retention(RetentionPolicy.RUNTIME)
@interface Says {
    String[] value();
}

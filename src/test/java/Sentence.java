import java.lang.annotation.ElementType;
import java.lang.annotation.Retention;
import java.lang.annotation.RetentionPolicy;
import java.lang.annotation.Target;

/** The sentence (or the part of one) of ../shared/DOC.md that a test is for, beside the promises that it bears on. */
@Retention(RetentionPolicy.RUNTIME)
@Target(ElementType.METHOD)
@interface Sentence {
    int[] promise();

    /** The heading that the sentence stands under, if it is not the promise's own. */
    String under() default "";

    String value();
}

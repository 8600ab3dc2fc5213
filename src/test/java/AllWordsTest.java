import java.io.IOException;
import java.lang.reflect.Method;
import java.util.Arrays;
import java.util.Map;

/** Looks that each word of the document has a test that tells it, but for those that name nothing to be tested. */
public final class AllWordsTest {
    private static final Class<?>[] TESTS = {
        ValueWordsTest.class, CallWordsTest.class, HeapWordsTest.class, OperationPromisesTest.class,
        HeapPromisesTest.class, AskedPromisesTest.class, SoundTest.class,
    };
    /** Parts that FaceTest looks at, or that promise nothing. */
    private static final String[] OTHERS = {"# Sealhouse", "The public face", "Not promised"};
    /** Words that tell what the rest is about, or that nothing is promised. */
    private static final String[] NOTHING_TO_TEST = {
        "A machine in which .* of what each compartment reaches\\.", "what later calls answer is free",
        "Operations, calls, .* quotas and reaches are asked\\.", "\\band\\b", "Ahead of the calls .* says: Figures\\.",
    };
    /** At the beginning of each promise; FaceTest looks at it. */
    private static final String SIGNATURE = "^`[^`]*`: ";

    private AllWordsTest() {
    }

    public static void main(String[] args) throws IOException {
        Check check = new Check("AllWordsTest");
        Map<String, String> parts = Doc.parts();
        for (int promise = 1; promise <= 33; promise++) {
            check.yes("there is a promise " + promise, parts.containsKey("Promise " + promise));
        }
        for (String other : OTHERS) {
            parts.remove(other);
        }
        for (Map.Entry<String, String> part : parts.entrySet()) {
            check.same("what has no test in " + part.getKey(), untested(part.getKey(), part.getValue()), "");
        }
        check.end();
    }

    /** The words of a part that no test tells, without the signs between them. */
    private static String untested(String name, String words) {
        boolean[] told = new boolean[words.length()];
        for (Class<?> tests : TESTS) {
            for (Method test : Sentences.testsIn(tests)) {
                Says says = test.getAnnotation(Says.class);
                int at = says.in().equals(name) ? words.indexOf(says.words()) : -1;
                if (at >= 0) {
                    Arrays.fill(told, at, at + says.words().length(), true);
                }
            }
        }
        StringBuilder rest = new StringBuilder();
        for (int i = 0; i < told.length; i++) {
            rest.append(told[i] ? '|' : words.charAt(i));
        }
        String left = rest.toString().replaceAll(SIGNATURE, "");
        for (String nothing : NOTHING_TO_TEST) {
            left = left.replaceAll(nothing, "");
        }
        return left.replaceAll("[^a-zA-Z0-9']+", " ").strip();
    }
}

import java.lang.reflect.Method;
import java.util.ArrayList;
import java.util.List;
import java.util.Set;
import java.util.TreeSet;

/** Each promise has sentences that are tried, on their own: a name is told once. */
public final class EveryPromiseTest {
    private static final Checks CHECKS = new Checks();

    public static void main(String[] args) {
        List<Method> sentences = new ArrayList<>();
        for (Class<?> tests : List.of(BoundsOfTheTownTest.class, BoundsOfAnswersTest.class, BoundsOfDaysTest.class,
            BoundsOfTextsTest.class, BoundsOfReadingTest.class, BoundsOfTablesTest.class, BoundsOfMapsTest.class,
            BoundsOfUndoTest.class)) {
            sentences.addAll(Sentences.of(tests));
        }
        Set<String> names = new TreeSet<>();
        int[] count = new int[47];
        for (Method sentence : sentences) {
            CHECKS.due("told once: " + sentence.getName(), names.add(sentence.getName()), true);
            count[Sentences.promiseOf(sentence)]++;
        }
        for (int promise = 1; promise <= 46; promise++) {
            CHECKS.due("promise " + promise + " has sentences", count[promise] > 0, true);
        }
        CHECKS.due("no other promise", count[0], 0);
        System.out.println(sentences.size() + " sentences of 46 promises");
        CHECKS.finish();
    }
}

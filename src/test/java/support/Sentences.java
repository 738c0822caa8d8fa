import java.lang.reflect.InvocationTargetException;
import java.lang.reflect.Method;
import java.util.ArrayList;
import java.util.Arrays;
import java.util.Comparator;
import java.util.List;

/**
 * Runs a test class sentence by sentence: each of its methods named p01.. to p46.. tries one sentence of the document,
 * the digits being the promise's number. A sentence that is wrong is told by its method's name.
 */
final class Sentences {
    private static String sentence = "";
    private static int checks = 0;
    private static int wrong = 0;

    private Sentences() {
    }

    static void due(String what, long got, long want) {
        due(what, Long.toString(got), Long.toString(want));
    }

    static void due(String what, boolean got, boolean want) {
        due(what, got ? "true" : "false", want ? "true" : "false");
    }

    static void due(String what, String got, String want) {
        checks++;
        if (!got.equals(want)) {
            wrong++;
            System.out.println(sentence + ": " + what + " answered " + got + ", due is " + want);
        }
    }

    /** The sentences of a test class, by their names. */
    static List<Method> of(Class<?> tests) {
        List<Method> sentences = new ArrayList<>();
        for (Method method : tests.getDeclaredMethods()) {
            if (method.getName().matches("p\\d\\d[A-Z0-9]\\w*")) {
                method.setAccessible(true);
                sentences.add(method);
            }
        }
        sentences.sort(Comparator.comparing(Method::getName));
        return sentences;
    }

    static int promiseOf(Method sentence) {
        return Integer.parseInt(sentence.getName().substring(1, 3));
    }

    /** Runs all sentences and ends the program: with 1 if one was wrong or one of the promises has none. */
    static void run(Class<?> tests, int... promises) {
        List<Method> sentences = of(tests);
        for (Method method : sentences) {
            runOne(method);
        }
        for (int promise : promises) {
            sentence = "promise " + promise;
            due("has a sentence", sentences.stream().anyMatch(m -> promiseOf(m) == promise), true);
        }
        sentence = tests.getName();
        for (Method method : sentences) {
            due(method.getName() + " is of its promises",
                Arrays.stream(promises).anyMatch(promise -> promise == promiseOf(method)), true);
        }
        System.out.println(sentences.size() + " sentences, " + checks + " checks, " + wrong + " wrong");
        System.exit(wrong == 0 && checks > 0 ? 0 : 1);
    }

    private static void runOne(Method method) {
        sentence = method.getName();
        int before = checks;
        try {
            method.invoke(null);
        } catch (InvocationTargetException e) {
            due("the call throws " + e.getCause() + " at " + e.getCause().getStackTrace()[0], true, false);
        } catch (IllegalAccessException e) {
            throw new IllegalStateException(e);
        }
        due("is tried", checks > before, true);
    }
}

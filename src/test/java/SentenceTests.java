import java.io.IOException;
import java.lang.reflect.InvocationTargetException;
import java.lang.reflect.Method;
import java.util.Arrays;
import java.util.Comparator;
import java.util.Set;
import java.util.TreeSet;

// Runs a test for each sentence of the document: the methods named promiseNN.. of the classes
// below. Each tells the sentence by its words, and no sentence may be left without one.
public final class SentenceTests {
    static final Class<?>[] GROUPS = {HillSentences.class, HourSentences.class, ComingSentences.class,
        SeenSentences.class, YearSentences.class, RefusalSentences.class};
    static void ask(Method test) throws IllegalAccessException {
        Report.promise = Integer.parseInt(test.getName().replaceAll("promise(\\d\\d).*", "$1"));
        Report.sentence = "";
        try {
            test.invoke(null);
        } catch (InvocationTargetException e) {
            Report.say(test.getName() + " ended by " + e.getCause());
        }
        if (Report.sentence.isEmpty()) Report.say(test.getName() + " names no sentence");
    }

    public static void main(String[] args) throws IOException, IllegalAccessException {
        Sentences.document = new Document();
        Set<Integer> promises = new TreeSet<>();
        int tests = 0;
        for (Class<?> group : GROUPS) {
            Method[] methods = group.getDeclaredMethods();
            Arrays.sort(methods, Comparator.comparing(Method::getName));
            for (Method test : methods) {
                if (!test.getName().matches("promise\\d\\d.*")) continue;
                ask(test);
                promises.add(Report.promise);
                tests++;
            }
        }
        Report.sentence = "";
        for (String rest : Sentences.document.unnamed()) Report.say("no test names this: " + rest);
        for (int p = 1; p <= 29; p++) if (!promises.contains(p)) Report.say("no test for promise " + p);
        System.out.println("SentenceTests: " + tests + " tests, " + Report.asked + " answers, " + Report.wrong + " not as due");
        if (Report.wrong != 0) System.exit(1);
    }
}

import java.io.IOException;
import java.lang.reflect.InvocationTargetException;
import java.lang.reflect.Method;
import java.nio.file.Path;
import java.util.Arrays;
import java.util.Comparator;

/**
 * Each sentence of the document that names a boundary case, by a test of its own; and whether each of them has one.
 */
public final class SentenceTest extends Checked {
    private static final Class<?>[] HOLDERS = {TermSentences.class, LawSentences.class, OfficeSentences.class, AheadSentences.class,
        RefusalSentences.class, PromiseSentences.class};

    public static void main(String[] args) throws IOException, ReflectiveOperationException {
        Document document = new Document(Path.of(System.getProperty("document", "../shared/DOC.md")));
        int tests = 0;
        for (Class<?> holder : HOLDERS) {
            Method[] methods = holder.getDeclaredMethods();
            Arrays.sort(methods, Comparator.comparing(Method::getName));
            for (Method method : methods) {
                Sentence sentence = method.getAnnotation(Sentence.class);
                if (sentence == null) continue;
                tests++;
                run(method, sentence, document);
            }
        }
        about = "the document";
        for (String around : document.unquoted()) due("a test of " + around, true, false);
        System.out.println("SentenceTest: " + tests + " sentences");
        tell("SentenceTest");
    }

    private static void run(Method method, Sentence sentence, Document document) throws ReflectiveOperationException {
        about = (sentence.promise() == 0 ? "" : "promise " + sentence.promise() + ", ") + '"' + sentence.value() + '"';
        due("standing in the document", true, document.quote(sentence.promise(), sentence.value()));
        int before = asked;
        method.setAccessible(true);
        try {
            method.invoke(null);
        } catch (InvocationTargetException e) {
            due("a call threw " + e.getCause() + ": calls that throw", 0, 1);
        }
        due("asking anything", true, asked > before);
    }
}

import java.io.IOException;
import java.lang.reflect.Method;
import java.util.ArrayList;
import java.util.List;

/** Each sentence of the document has a test that quotes it, or stands here with the reason. */
public final class EdgeCoverTest {
    private static final Class<?>[] TESTS = {EdgeRulesTest.class, EdgeMoveTest.class,
        EdgeWaysTest.class, EdgeTextTest.class, EdgeNodesTest.class, EdgeCountTest.class,
        EdgeDraftTest.class, EdgeActsTest.class, EdgeTimeTest.class, EdgePredictTest.class,
        EdgeThrowTest.class};

    /** What names no answer of a call: headings, and what is free. */
    private static final List<String> NAME_NOTHING = List.of(
            "In the tick at the time t:", "4", // the number before "The time is t + 1"
            "The constants:",
            "The constructor and the methods follow, a promise each: the signature, then what it"
                    + " does",
            "---- setup texts", "---- nodes and links", "---- drafts and best ways", "---- time",
            "---- circuits and packets", "---- saved states",
            "How the state is held inside the object is free, as are the speed of each call, the"
                    + " text of toString and the behaviour of equals and hashCode",
            "Use of one object from several threads at once is not promised to be safe",
            "Nothing is promised beyond the answers and state changes described above, and nothing"
                    + " about an object after its 512th call");

    public static void main(String[] args) throws IOException {
        Check check = new Check();
        Document document = Document.besideRoot(args.length > 0 ? args[0] : ".");
        if (document == null) {
            System.out.println("EdgeCoverTest: no document beside the project, nothing is held");
            return;
        }
        for (String section : document.sections()) {
            List<String> quotes = quotesOf(section);
            for (String sentence : document.sentences(section)) {
                check.dueTrue("no test quotes, of " + section + ": " + sentence,
                        NAME_NOTHING.contains(sentence) || isQuoted(sentence, quotes));
            }
        }
        check.end("EdgeCoverTest");
    }

    private static List<String> quotesOf(String section) {
        List<String> quotes = new ArrayList<>();
        for (Class<?> tests : TESTS) {
            for (Method m : Edges.testsOf(tests)) {
                Sentence sentence = m.getAnnotation(Sentence.class);
                if (sentence.in().equals(section)) {
                    quotes.addAll(List.of(sentence.says()));
                }
            }
        }
        return quotes;
    }

    private static boolean isQuoted(String sentence, List<String> quotes) {
        for (String quote : quotes) {
            if (quote.contains(sentence) || sentence.contains(quote.replaceAll("[.;]$", ""))) {
                return true;
            }
        }
        return false;
    }
}

import java.util.HashSet;
import java.util.Set;
import java.util.function.Function;
import java.util.function.Supplier;

/**
 * Checks of the document, sentence by sentence. Every check stands behind the sentence that it belongs
 * to, quoted word by word, and behind the promise or the paragraph where the document has it; what is
 * printed of a wrong answer names both.
 */
final class Sentences {
    private final Check check = new Check();
    private String title = "";
    private int asked = 1;
    private final Set<String> titles = new HashSet<>();

    /** Begins the checks of a sentence. */
    void sentence(String place, String words) {
        requireChecks();
        title = place + ": \"" + words + "\": ";
        asked = 0;
        titles.add(title);
    }

    private void requireChecks() {
        if (asked == 0) {
            throw new IllegalStateException("no check of " + title);
        }
    }

    void due(String what, Object want, Check.Call call) {
        asked++;
        check.due(title + what, want, call);
    }

    /**
     * The call on a bench answers what is due, and the parts of the state that then differ from those
     * of such a bench without the call are the ones that are named: see Views.
     */
    void touches(String parts, String what, Object want, Supplier<TransducerBench> maker,
            Function<TransducerBench, Object> call) {
        TransducerBench answering = maker.get();
        due(what, want, () -> call.apply(answering));
        due(what + " touches", parts, () -> Views.touched(maker, call));
    }

    /** The call throws and leaves all as it was. */
    void refused(String what, Class<?> want, Supplier<TransducerBench> maker,
            Function<TransducerBench, Object> call) {
        touches("nothing", what, want, maker, call);
    }

    void end() {
        requireChecks();
        System.out.print(titles.size() + " sentences, ");
        check.end();
    }
}

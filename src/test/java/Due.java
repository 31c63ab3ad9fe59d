import java.io.IOException;
import java.nio.file.Files;
import java.nio.file.Path;
import java.util.LinkedHashMap;
import java.util.Map;

/** What the tests share: answers against those that are due, and the end of a test. */
final class Due {
    private static final Path DOCUMENT = Path.of("../shared/DOC.md");

    /** A call whose answer is looked at (a boolean counts 1 or 0, no answer counts 0). */
    interface Call {
        long run();
    }

    /** A call that answers nothing. */
    interface Order {
        void run();
    }

    private final String test;
    private final Map<String, Integer> looks = new LinkedHashMap<>();
    private String words = "";
    private int wrong = 0;

    Due(String test) {
        this.test = test;
    }

    /** The document's own words by which the next answers are due. */
    void says(String quote) {
        words = quote;
        looks.putIfAbsent(quote, 0);
    }

    void is(String call, long got, long want) {
        look(got == want, call + " answered " + got + ", due is " + want);
    }

    void is(String call, boolean got, boolean want) {
        is(call, got ? 1 : 0, want ? 1 : 0);
    }

    void is(String call, String got, String want) {
        look(got.equals(want), call + " threw " + got + ", due is " + want);
    }

    void refusesArgument(String call, Call run) {
        is(call, thrownBy(run), "IllegalArgumentException");
    }

    void refusesState(String call, Call run) {
        is(call, thrownBy(run), "IllegalStateException");
    }

    void refusesIndex(String call, Call run) {
        is(call, thrownBy(run), "IndexOutOfBoundsException");
    }

    void allows(String call, Order run) {
        is(call, thrownBy(answering(run)), "nothing");
    }

    static Call answering(Order run) {
        return () -> {
            run.run();
            return 0;
        };
    }

    /** The simple name of what a call throws, or "nothing". */
    static String thrownBy(Call run) {
        try {
            run.run();
            return "nothing";
        } catch (RuntimeException e) {
            return e.getClass().getSimpleName();
        }
    }

    private void look(boolean right, String told) {
        looks.computeIfPresent(words, (quote, before) -> before + 1);
        if (!right) {
            wrong++;
            System.out.println(test + ": " + told + (words.isEmpty() ? "" : " [" + words + "]"));
        }
    }

    int wrong() {
        return wrong;
    }

    void end() {
        words = "";
        looks.forEach((quote, answers) -> look(answers > 0, "no answer is looked at for: " + quote));
        checkQuotes();
        System.out.println(test + ": " + (wrong == 0 ? "all answers are as due" : wrong + " answers are not as due"));
        if (wrong != 0) {
            System.exit(1);
        }
    }

    /** What a test says of the document must stand there, so that a changed sentence is seen. */
    private void checkQuotes() {
        if (!Files.isReadable(DOCUMENT)) {
            return;
        }
        try {
            String text = Files.readString(DOCUMENT).replaceAll("\\s+", " ");
            looks.keySet().forEach(quote -> look(text.contains(quote), "the document does not say: " + quote));
        } catch (IOException e) {
            look(false, "the document cannot be read: " + e);
        }
    }
}

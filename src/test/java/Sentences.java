import java.util.function.Consumer;

/** Runs the tests sentence by sentence of the document: each stands by itself and fails by itself. */
final class Sentences {
    private final Document document = Document.read();
    private int passed;
    private int failed;

    void start(String words, Consumer<Due> test) {
        run(Document.START, words, test);
    }

    void terms(String words, Consumer<Due> test) {
        run(Document.TERMS, words, test);
    }

    void promise(int number, String words, Consumer<Due> test) {
        run("Promise " + number, words, test);
    }

    private void run(String section, String words, Consumer<Due> test) {
        String name = section + ", '" + words + "'";
        Due due = new Due(name);
        due.isTrue("the document says so", document.quotes(section, words) || !document.isThere());
        try {
            test.accept(due);
        } catch (RuntimeException | Error e) {
            due.isTrue(name + " ended with " + e + " at " + e.getStackTrace()[0], false);
        }
        due.isTrue("something was tested", due.passed() + due.failed() > 1);
        if (due.failed() == 0) {
            passed++;
        } else {
            failed++;
            System.out.println("BROKEN: " + name);
        }
    }

    void end() {
        for (String words : document.unquoted()) {
            failed++;
            System.out.println("no test for " + words);
        }
        System.out.println("SentencesTest: " + passed + " passed, " + failed + " failed");
        if (failed > 0) {
            System.exit(1);
        }
    }
}

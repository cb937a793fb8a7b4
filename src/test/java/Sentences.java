/** For tests to extend that go by the document's sentences: each check is told with the one that it belongs to. */
abstract class Sentences extends Benches {
    private final Check check;
    private String sentence;
    private int checks;

    Sentences(String name) {
        check = new Check(name);
    }

    /** What is checked from here on belongs to these words of the document. */
    void sentence(String words) {
        closeSentence();
        sentence = words;
        checks = 0;
    }

    void due(String call, long got, long want) {
        checks++;
        check.due("'" + sentence + "': " + call, got, want);
    }

    void same(String what, String got, String want) {
        checks++;
        check.holds("'" + sentence + "': " + what + ": now " + got + ", due " + want, got.equals(want));
    }

    /** An answer of a call that keeps a status. */
    void dueWithStatus(String call, LeastRue x, int got, int want) {
        due(call, got, want);
        due("status after " + call, x.status(), Math.min(0, want));
    }

    void end() {
        closeSentence();
        check.end();
    }

    private void closeSentence() {
        check.holds("a sentence without a check: " + sentence, sentence == null || checks > 0);
    }
}

/** Sentences of the document, each with runs of calls of its own on new objects. */
final class Sentences {
    private final Due due;
    private int sentences = 0;

    Sentences(String test) {
        due = new Due(test);
    }

    /** Where names the place in the document, words are what it says there. */
    void hold(String where, String words, String... scripts) {
        sentences++;
        for (String text : scripts) {
            Script script = new Script(text);
            String label = where + " \"" + words + "\"";
            due.yes(label + ": a run has at most 512 calls", script.calls().size() <= Script.MOST_CALLS);
            script.run(new PagerKernel(), due, label);
        }
    }

    void end() {
        System.out.println(sentences + " sentences");
        due.end();
    }
}

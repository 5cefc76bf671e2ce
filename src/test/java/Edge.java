/** Runs tests that are named by the sentence of the document whose bound they look at. */
final class Edge {
    interface Look {
        void at(Checks c);
    }

    private boolean well = true;

    void of(String sentence, Look look) {
        Checks c = new Checks(sentence);
        try {
            look.at(c);
        } catch (RuntimeException e) {
            c.is("a call that threw " + e, 1, 0);
        }
        well &= c.end();
    }

    void end() {
        if (!well) {
            System.exit(1);
        }
    }
}

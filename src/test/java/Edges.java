import java.io.IOException;
import java.nio.file.Files;
import java.util.LinkedHashSet;
import java.util.Set;

/** Tests named by the sentences of the document: one for each sentence that names a boundary case. */
final class Edges {
    interface Body {
        void test(Check check);
    }

    private final Check all = new Check("EdgesTest");
    private final Set<String> told = new LinkedHashSet<>();
    private String heading = "";

    /** Says under which heading of the document the next sentences stand. */
    void under(String newHeading) {
        heading = newHeading;
    }

    /** Tests a sentence by runs of calls, each on a new volume. */
    void edge(String sentence, String... runs) {
        edge(sentence, check -> {
            for (String run : runs) {
                Script.run(check, run);
            }
        });
    }

    void edge(String sentence, Body body) {
        String name = Document.under(heading, sentence);
        Check check = new Check(name);
        try {
            body.test(check);
        } catch (RuntimeException e) {
            check.holds(false, "the test ends by " + e);
        }
        told.add(name);
        all.holds(check.calls() > 0, name + ": the test asks nothing");
        all.holds(check.wrong() == 0, name + ": does not hold");
    }

    /** Names sentences that name no boundary case; what they say is tested beside the other tests. */
    void plain(String... sentences) {
        for (String sentence : sentences) {
            told.add(Document.under(heading, sentence));
        }
    }

    /** Each sentence of the document has been read, and each one told here is the document's own. */
    void compareWithDocument() throws IOException {
        if (!Files.exists(Document.PATH)) {
            System.out.println("EdgesTest: " + Document.PATH + " is not here, its sentences are not compared");
            return;
        }
        Set<String> sentences = Document.sentences();
        for (String sentence : sentences) {
            all.holds(told.contains(sentence), "the document's sentence has no test: " + sentence);
        }
        for (String sentence : told) {
            all.holds(sentences.contains(sentence), "the document has no such sentence: " + sentence);
        }
    }

    void end() {
        all.end();
    }
}

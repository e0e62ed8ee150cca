import java.io.IOException;
import java.nio.file.Path;

/** A test for each sentence of the document that names an edge; what it says of it must stand there. */
abstract class Edges extends Checks {
    private static Document document;

    static void open() throws IOException {
        document = new Document(Path.of(System.getProperty("flashfolio.doc", "../shared/DOC.md")));
    }

    /** The test of one sentence; the section is "Terms 1", "Promise 7", .. */
    static void edge(String section, String sentence, Runnable test) {
        about(section + ", \"" + sentence + "\"");
        if (!document.quote(section, sentence)) {
            wrong("the document has no such sentence");
        }
        test.run();
    }

    /** Sentences that name an edge in these sections must all have had their test by now. */
    static void allHeld(String sectionsFrom) {
        about("edges");
        for (String edge : document.unquoted(sectionsFrom)) {
            wrong("no test holds " + edge);
        }
    }
}

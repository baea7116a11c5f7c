import java.io.IOException;
import java.util.ArrayList;
import java.util.HashSet;
import java.util.List;
import java.util.Set;

/**
 * The tests of the document's edges. Each has the name of a part of the document and of a sentence there (its whole text,
 * or as much of its beginning as tells it from the others), so that one finds the sentence by the test and the test by the
 * sentence.
 */
final class Edges {
    interface Body {
        void run(Checks c);
    }

    private final Document document;
    private final Set<String> told = new HashSet<>();
    private int tests;
    private int checks;
    private int wrong;

    Edges() throws IOException {
        document = new Document();
    }

    void test(String part, String sentence, Body body) {
        told.add(part + ": " + sentence(part, sentence));
        Checks c = new Checks(part + ", \"" + sentence + "\"");
        try {
            body.run(c);
        } catch (RuntimeException e) {
            e.printStackTrace(System.out);
            c.due("exceptions", 1, 0);
        }
        c.due("has checks", c.done() > 0 ? 1 : 0, 1);
        tests++;
        checks += c.done();
        wrong += c.wrong();
    }

    /** The sentence names no edge of its own: it only says what something is, or leads to the next sentences. */
    void noEdge(String part, String... sentences) {
        for (String sentence : sentences) {
            told.add(part + ": " + sentence(part, sentence));
        }
    }

    /** The sentence of that part that is this one, or else the only one that begins with it. */
    String sentence(String part, String beginning) {
        List<String> found = new ArrayList<>();
        for (String one : document.sentences(part)) {
            if (one.equals(beginning)) {
                return one;
            }
            if (one.startsWith(beginning)) {
                found.add(one);
            }
        }
        if (found.size() != 1) {
            complain("the document has " + found.size() + " sentences in " + part + " that begin with: " + beginning);
            return beginning;
        }
        return found.get(0);
    }

    private void complain(String what) {
        wrong++;
        System.out.println(what);
    }

    void everySentenceIsTold() {
        for (String part : document.parts()) {
            for (String sentence : document.sentences(part)) {
                if (!told.contains(part + ": " + sentence)) {
                    complain("no test for " + part + ": " + sentence);
                }
            }
        }
    }

    void end() {
        System.out.println("EdgesTest: " + tests + " tests, " + checks + " checks, " + wrong + " wrong");
        if (wrong != 0) {
            System.exit(1);
        }
    }
}

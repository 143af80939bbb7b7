import java.util.ArrayList;
import java.util.List;

/** Sentences of the document that name a boundary case, each with the test of it. */
final class Edges {
    /** A sentence, or a part of one, stands as in the document, in that promise or in the Terms. */
    record Edge(int promise, String sentence, Runnable test) {
    }

    private final List<Edge> edges = new ArrayList<>();

    void of(int promise, String sentence, Runnable test) {
        edges.add(new Edge(promise, sentence, test));
    }

    List<Edge> all() {
        return edges;
    }

    void run(String name) {
        for (Edge edge : edges) {
            Check.about("Promise " + edge.promise() + ", '" + edge.sentence() + "': ");
            int before = Check.asked();
            try {
                edge.test().run();
            } catch (RuntimeException e) {
                Check.wrong("the test was ended by " + e);
            }
            if (Check.asked() == before) {
                Check.wrong("the test asks nothing");
            }
        }
        Check.about("");
        Check.end(name + ", " + edges.size() + " sentences");
    }
}

import java.io.IOException;
import java.nio.charset.StandardCharsets;
import java.nio.file.Files;
import java.nio.file.Path;
import java.util.ArrayList;
import java.util.List;
import java.util.Set;
import java.util.TreeMap;

/**
 * Holds the sentences that the Edges tests name against the document: each of them stands there, in its
 * promise or in the Terms, and no sentence of the document is without a test, but for those told here.
 */
public final class SentencesTest {
    private static final Path DOCUMENT = Path.of("../shared/DOC.md");
    private static final String PROMISE = "## Promise ";
    private static final int TERMS = 0;

    /** These sentences, or parts of them, name no boundary case. */
    private static final Set<String> WITHOUT = Set.of(
        "what later calls answer is free.",
        "The calls lay blocks, lamps, gluings and intervals",
        "All numbers are whole, where nothing else is told.",
        "A STATE of a SHOT is its CELL, its SIDE and its two HEADINGS.",
        "IndexOutOfBoundsException: there is no such CELL, SQUARE, INTERVAL, POINT or place.",
        "IllegalArgumentException: another argument is out of its range.",
        "IllegalStateException: as the method tells.");

    private SentencesTest() {
    }

    private static List<Edges.Edge> allEdges() {
        Edges edges = new Edges();
        RoomEdgesTest.tell(edges);
        LampsEdgesTest.tell(edges);
        SurfaceEdgesTest.tell(edges);
        ExchangeEdgesTest.tell(edges);
        return edges.all();
    }

    /** The sentences of each promise, and of the Terms and of what stands before them as promise 0. */
    private static TreeMap<Integer, List<String>> sentences() throws IOException {
        TreeMap<Integer, List<String>> sentences = new TreeMap<>();
        int promise = TERMS;
        boolean isText = true;
        for (String line : Files.readAllLines(DOCUMENT, StandardCharsets.UTF_8)) {
            if (line.startsWith(PROMISE)) {
                promise = Integer.parseInt(line.substring(PROMISE.length(), line.indexOf(':')));
            }
            if (line.startsWith("#")) {
                isText = !line.startsWith("## Not promised") && !line.startsWith("## The public face");
            } else if (isText && !line.isEmpty() && !line.startsWith("```")) {
                sentences.computeIfAbsent(promise, key -> new ArrayList<>()).addAll(sentencesIn(line, promise));
            }
        }
        return sentences;
    }

    /** In a promise a line is one sentence, less the signature; the Terms have several in a line. */
    private static List<String> sentencesIn(String line, int promise) {
        List<String> sentences = new ArrayList<>();
        if (promise != TERMS) {
            boolean isSignature = line.startsWith("`");
            sentences.add(isSignature ? line.substring(line.indexOf("`: ") + 3) : line);
        } else if (!isOfTheFace(line) && !line.startsWith("A room of balls")) {
            for (String sentence : line.split("(?<=\\.) ")) {
                sentences.add(sentence);
            }
        }
        return sentences;
    }

    private static boolean isOfTheFace(String line) {
        return line.startsWith("Ahead of the calls") || line.startsWith("The constants:");
    }

    private static boolean isIn(List<String> sentences, String part) {
        for (String sentence : sentences) {
            if (sentence.contains(part)) {
                return true;
            }
        }
        return false;
    }

    private static void eachEdgeStandsThere(TreeMap<Integer, List<String>> sentences) {
        for (Edges.Edge edge : allEdges()) {
            boolean stands = isIn(sentences.get(edge.promise()), edge.sentence())
                || isIn(sentences.get(TERMS), edge.sentence());
            Check.same("promise " + edge.promise() + " has '" + edge.sentence() + "'", stands, true);
        }
    }

    /** A test names a part of the sentence, or more than it. */
    private static boolean hasEdge(int promise, String part) {
        for (Edges.Edge edge : allEdges()) {
            boolean isOfIt = promise == TERMS || edge.promise() == promise;
            if (isOfIt && (part.contains(edge.sentence()) || edge.sentence().contains(part))) {
                return true;
            }
        }
        return false;
    }

    private static void eachSentenceHasAnEdge(TreeMap<Integer, List<String>> sentences) {
        for (int promise : sentences.keySet()) {
            for (String sentence : sentences.get(promise)) {
                for (String part : sentence.split("; ")) {
                    boolean isHeld = WITHOUT.contains(part) || hasEdge(promise, part);
                    Check.same("promise " + promise + ", '" + part + "' has a test", isHeld, true);
                }
            }
        }
    }

    public static void main(String[] args) throws IOException {
        TreeMap<Integer, List<String>> sentences = sentences();
        for (int promise = 0; promise <= 33; promise++) {
            Check.same("promise " + promise + " is in the document", sentences.containsKey(promise), true);
        }
        eachEdgeStandsThere(sentences);
        eachSentenceHasAnEdge(sentences);
        Check.end("SentencesTest");
    }
}

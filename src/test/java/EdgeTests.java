import java.io.IOException;
import java.nio.file.Files;
import java.nio.file.Path;
import java.util.ArrayList;
import java.util.List;

/**
 * The document once more, sentence by sentence: each has a test of its own, and each test names the
 * words that it looks at, so that no words are left without one.
 */
public final class EdgeTests {
    private static final Path DOCUMENT = Path.of("../shared/DOC.md");
    private static final int PROMISES = 23;

    private EdgeTests() {
    }

    public static void main(String[] arguments) throws IOException {
        String source = arguments.length > 0 ? arguments[0] : "src/main/java/PromiseWheel.java";
        Document document = Document.read(DOCUMENT);
        Edges.begin(document);
        FaceEdges.go(Files.readString(Path.of(source)));
        TermsEdges.go();
        TickEdges.go();
        TextEdges.go();
        KeepingEdges.go();
        ActionEdges.go();
        LookingEdges.go();
        ForecastEdges.go();
        Edges.endSentence();
        for (String words : document.unnamed(sections())) {
            Check.holds("no test names the words of " + words, false);
        }
        Check.finish("EdgeTests");
    }

    private static List<String> sections() {
        List<String> sections = new ArrayList<>(List.of(
                "What it is", "The public face", "Terms", "Promises", "Rings", "A tick", "Text",
                "Snapshots", "Undo", "Errors"));
        for (int promise = 1; promise <= PROMISES; promise++) {
            sections.add(String.valueOf(promise));
        }
        return sections;
    }
}

import java.io.IOException;
import java.nio.file.Path;

/** For each sentence of the document, by its own words, what it says at its boundaries. */
public final class BoundariesTest {
    public static void main(String[] args) throws IOException {
        Sentences sentences = new Sentences(Path.of("../shared/DOC.md"));
        Boundaries[] all = {new HouseBoundaries(sentences), new ConditionBoundaries(sentences),
            new TextBoundaries(sentences), new LawBoundaries(sentences), new NeedBoundaries(sentences),
            new FindingBoundaries(sentences), new KindBoundaries(sentences), new ImageBoundaries(sentences),
            new RefusalBoundaries(sentences)};
        for (Boundaries some : all) {
            some.run();
        }
        sentences.end();
    }
}

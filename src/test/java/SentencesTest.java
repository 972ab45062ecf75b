import java.io.IOException;

/** Each sentence of DOC.md, by name, with the boundary cases that it tells of; run from the project's directory. */
public final class SentencesTest {
    public static void main(String[] args) throws IOException {
        Sentence sentence = new Sentence();
        new FileEdges(sentence).all();
        new FaultEdges(sentence).all();
        new TermEdges(sentence).all();
        new PlainEdges(sentence).all();
        new CompareEdges(sentence).all();
        sentence.noneIsLeft();
        Check.finish();
    }
}

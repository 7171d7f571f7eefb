import java.io.IOException;

/** One test for each sentence of the document that names a boundary, promises 1 to 38. */
public final class EdgesTest {
  private EdgesTest() {
  }

  public static void main(String[] args) throws IOException {
    Edges edges = new Edges();
    EdgesOfTexts.run(edges);
    EdgesOfActs.run(edges);
    EdgesOfAsked.run(edges);
    EdgesOfStory.run(edges);
    edges.finish();
  }
}

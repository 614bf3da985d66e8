/** Each sentence of the document at its edges: too small, too large, empty, full, wrapped, refused. */
public final class EdgeTest {
  private EdgeTest() {}

  public static void main(String[] args) throws java.io.IOException {
    Sentences sentences = new Sentences();
    AimEdges.tell(sentences);
    TermEdges.tell(sentences);
    GroupEdges.tell(sentences);
    TreeEdges.tell(sentences);
    ToldEdges.tell(sentences);
    SheetEdges.tell(sentences);
    if (!sentences.end()) System.exit(1);
  }
}

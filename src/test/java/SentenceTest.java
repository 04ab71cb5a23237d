/** Each sentence of the document by a test of its own: at its boundary, just beyond it, and what is refused there. */
public final class SentenceTest {
  private SentenceTest() {
  }

  public static void main(String[] args) throws Exception {
    Sentences sentences = new Sentences();
    WholeSentences.test(sentences);
    FaceSentences.test(sentences);
    RoomSentences.test(sentences);
    SeatSentences.test(sentences);
    FullSentences.test(sentences);
    RowSentences.test(sentences);
    SeenSentences.test(sentences);
    RefusalSentences.test(sentences);
    if (sentences.end() != 0) {
      System.exit(1);
    }
  }
}

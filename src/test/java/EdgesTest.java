/**
 * Every sentence of the terms and of the promises, one after the other, at its edges: the last input that is still
 * allowed, the first that is not, what is answered there and what is left as it was.
 */
public final class EdgesTest {
  public static void main(String[] args) {
    TextEdges.run();
    DayEdges.run();
    TellEdges.run();
    AskEdges.run();
    YearEdges.run();
    KeepEdges.run();
    Sentences.end();
    Due.end("EdgesTest");
  }
}

import java.io.IOException;

/** A test for each sentence of the document: what is ordinary, last, one more, empty, full, refused. */
public final class BoundsTest {
  public static void main(String[] args) throws IOException {
    Bounds bounds = new Bounds();
    new BoundsOfTexts(bounds).test();
    new BoundsOfActs(bounds).test();
    new BoundsOfComing(bounds).test();
    new BoundsOfSeen(bounds).test();
    new BoundsOfSeasons(bounds).test();
    new BoundsOfCalls(bounds).test();
    bounds.end();
  }
}

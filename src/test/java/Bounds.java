import java.io.IOException;

/** What the tests of the document's sentences and bounds share: the sentence that is tested, and runs of calls for it. */
final class Bounds {
  static final int BAD = WreathOrbits.BAD, NO = WreathOrbits.NO, FULL = WreathOrbits.FULL, NONE = WreathOrbits.NONE;
  static final int MIN = Integer.MIN_VALUE, MAX = Integer.MAX_VALUE;
  /** An item with the least number in each place, and one with the most. */
  static final String LEAST = "p0,0,1,0,0;", MOST = "p3,5,9,11,11;";

  private final Due due = new Due("BoundsTest");
  private final Sentences sentences;
  private String sentence = "";

  Bounds() throws IOException {
    sentences = new Sentences();
  }

  /** The sentence that is tested from here on; it must stand in the document, ahead of the promises. */
  void term(String quote) {
    sentence = quote;
    equal("it stands in the document", sentences.term(quote) ? 1 : 0, 1);
  }

  /** The sentence of a promise that is tested from here on. */
  void promise(int number, String quote) {
    sentence = "Promise " + number + ": " + quote;
    equal("it stands under its heading", sentences.promise(number, quote) ? 1 : 0, 1);
  }

  /** A new object. */
  Run run() {
    return new Run(this);
  }

  /** A new object whose town is laid by a text. */
  Run run(String text) {
    return run().lay(text);
  }

  void equal(String what, int got, int want) {
    due.is("'" + sentence + "': " + what, got, want);
  }

  void same(String what, String got, String want) {
    due.same("'" + sentence + "': " + what, got, want);
  }

  void end() {
    sentence = "every sentence has a test";
    for (String line : sentences.left()) equal("not so: " + line, 1, 0);
    due.end();
  }
}

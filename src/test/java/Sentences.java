import java.io.IOException;
import java.nio.file.Files;
import java.nio.file.Path;
import java.util.ArrayList;
import java.util.List;
import java.util.regex.Matcher;
import java.util.regex.Pattern;

/**
 * The document's sentences, and which of them have a test: a quote must stand in the document, and nothing
 * may be left there that is never quoted, so that a sentence without a test of its own is told.
 */
final class Sentences {
  private static final Path DOCUMENT = Path.of("../shared/DOC.md");
  /** What stands in the document beside its sentences: headings, the marks of its parts, the calls' own lines. */
  private static final Pattern BESIDE = Pattern.compile("## [^\n]*|======== \\d|```[a-z]*|`[^`\n]*`:|Ahead of the calls [^\n]*");

  private final String document;
  private final boolean[] quoted;

  Sentences() throws IOException {
    document = Files.readString(DOCUMENT);
    quoted = new boolean[document.length()];
    quoteBetween("# WreathOrbits", "There are DOORS");
    quoteBetween("## The public face", "## Terms");
    quoteBetween("## Not promised", "");
    Matcher beside = BESIDE.matcher(document);
    while (beside.find()) quote(beside.start(), beside.end());
  }

  /** Quotes a sentence that stands ahead of the promises. */
  boolean term(String sentence) {
    return quoteWithin(0, document.indexOf("## Promise 1:"), sentence);
  }

  /** Quotes a sentence that stands under the heading of a promise. */
  boolean promise(int number, String sentence) {
    int start = document.indexOf("## Promise " + number + ":");
    int end = document.indexOf("\n## ", start);
    return quoteWithin(start, end, sentence);
  }

  /** What is left of the document's lines that no test quotes. */
  List<String> left() {
    StringBuilder rest = new StringBuilder();
    for (int i = 0; i < quoted.length; i++) rest.append(quoted[i] && document.charAt(i) != '\n' ? ' ' : document.charAt(i));
    List<String> left = new ArrayList<>();
    for (String line : rest.toString().split("\n"))
      if (!line.isBlank()) left.add(line.trim());
    return left;
  }

  private boolean quoteWithin(int start, int end, String sentence) {
    if (start < 0 || end < start) return false;
    // The document may break its lines and indent them elsewhere than a quote does.
    String pattern = Pattern.quote(sentence).replaceAll("\\s+", "\\\\E\\\\s+\\\\Q");
    Matcher m = Pattern.compile(pattern).matcher(document).region(start, end);
    if (!m.find()) return false;
    quote(m.start(), m.end());
    return true;
  }

  private void quoteBetween(String from, String till) {
    int start = document.indexOf(from);
    int end = till.isEmpty() ? document.length() : document.indexOf(till, Math.max(0, start));
    if (start >= 0 && end >= 0) quote(start, end);
  }

  private void quote(int start, int end) {
    for (int i = start; i < end; i++) quoted[i] = true;
  }
}

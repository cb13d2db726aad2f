import java.io.IOException;
import java.io.UncheckedIOException;
import java.nio.file.Files;
import java.nio.file.Path;
import java.util.ArrayList;
import java.util.List;

/** The class's face, as the document has it. */
final class Face {
  /** The members' lines, without their semicolons, in the document's order. */
  static List<String> members() {
    String document = document();
    int start = document.indexOf("```java", document.indexOf("## The public face"));
    int end = document.indexOf("```\n", start + 7);
    List<String> members = new ArrayList<>();
    for (String line : document.substring(start, end).split("\n"))
      if (line.endsWith(";")) members.add(line.substring(0, line.length() - 1).trim());
    return members;
  }

  /** The constructor and the methods: name and parameters. */
  static List<String> calls() {
    List<String> calls = new ArrayList<>();
    for (String member : members())
      if (member.endsWith(")")) calls.add(member.replaceFirst("^public (int )?", ""));
    return calls;
  }

  private static String document() {
    try {
      return Files.readString(Path.of("../shared/DOC.md"));
    } catch (IOException e) {
      throw new UncheckedIOException(e);
    }
  }
}

import java.io.IOException;
import java.nio.file.Files;
import java.nio.file.Path;
import java.util.ArrayList;
import java.util.Arrays;
import java.util.List;
import java.util.Map;
import java.util.regex.Matcher;
import java.util.regex.Pattern;
import java.util.stream.Stream;

/** README.md: it tells every call of the document's face, its examples answer as it says, it names every test. */
public final class ReadmeTest {
  private static final Due due = new Due("ReadmeTest");
  private static final Map<String, Integer> CONSTANTS =
      Map.of("BAD", WreathOrbits.BAD, "NO", WreathOrbits.NO, "FULL", WreathOrbits.FULL, "NONE", WreathOrbits.NONE);
  private static final String ANSWER = "(-?\\d+|BAD|NONE|NO|FULL)\\b";
  private static final Pattern ROW = Pattern.compile("(?m)^\\| `(\\w+\\([^`]*\\))` \\| (.+) \\| (.+) \\|$");
  private static final Pattern EXAMPLE = Pattern.compile("`(\\w+)\\(([^`]*)\\)` " + ANSWER);
  private static final Pattern LINE = Pattern.compile("(?m)^x\\.(\\w+)\\(([^)]*)\\); +// " + ANSWER + ": ");
  private static final Pattern WRITTEN = Pattern.compile("(?m)^for \\(char letter : \"(.*)\"\\.toCharArray\\(\\)\\) x\\.write\\(letter\\);");

  public static void main(String[] args) throws IOException {
    String readme = Files.readString(Path.of("README.md"));
    calls(readme);
    constants(readme);
    use(readme);
    tests(readme);
    due.end();
  }

  private static void holds(String what, boolean so) {
    due.is(what, so ? 1 : 0, 1);
  }

  /** The calls of the face, in its order, each with a row whose examples hold. */
  private static void calls(String readme) {
    List<String> told = new ArrayList<>();
    Matcher row = ROW.matcher(readme);
    while (row.find()) {
      told.add(row.group(1));
      examples(row.group(1), row.group(3));
    }
    List<String> face = Face.calls();
    due.is("calls that are told", told.size(), face.size());
    for (int i = 0; i < face.size() && i < told.size(); i++) holds("row " + i + " tells " + face.get(i), told.get(i).equals(face.get(i)));
  }

  private static void examples(String call, String cell) {
    WreathOrbits x = new WreathOrbits();
    Matcher example = EXAMPLE.matcher(cell);
    int end = 0;
    boolean itself = call.equals("WreathOrbits()");
    while (example.find()) {
      holds(call + ": nothing but examples in " + cell, cell.substring(end, example.start()).equals(end == 0 ? "" : ", "));
      ask(x, "README's row of " + call + ": ", example);
      itself |= call.startsWith(example.group(1) + "(");
      end = example.end();
    }
    holds(call + ": all of the examples are read", end == cell.length());
    holds(call + ": it is itself among its examples", itself);
  }

  private static void ask(WreathOrbits x, String where, Matcher m) {
    int[] arguments = Stream.of(m.group(2).split(", *")).filter(s -> !s.isEmpty()).mapToInt(Integer::parseInt).toArray();
    int want = CONSTANTS.containsKey(m.group(3)) ? CONSTANTS.get(m.group(3)) : Integer.parseInt(m.group(3));
    due.is(where + m.group(1) + Arrays.toString(arguments), Calls.make(x, m.group(1), arguments), want);
  }

  private static void constants(String readme) {
    CONSTANTS.forEach((name, value) -> holds(name + " is told", readme.contains("| `" + name + "` (" + value + ") |")));
  }

  /** The run of calls under 'Use', line by line on one object. */
  private static void use(String readme) {
    String code = readme.substring(readme.indexOf("```java"), readme.indexOf("```\n", readme.indexOf("```java") + 7));
    WreathOrbits x = new WreathOrbits();
    int asked = 0;
    for (String line : code.split("\n")) {
      Matcher written = WRITTEN.matcher(line);
      if (written.find()) Due.write(x, written.group(1));
      Matcher call = LINE.matcher(line);
      if (call.find()) {
        ask(x, "README's use: ", call);
        asked++;
      }
    }
    // What is neither is the line that makes the object, the marks around the lines, and a blank one.
    due.is("lines under 'Use' that are read", asked + 1, (int) code.lines().filter(s -> s.contains("x.")).count());
  }

  private static void tests(String readme) throws IOException {
    holds("how to run the tests", readme.contains("\n    .ci/run\n"));
    try (Stream<Path> files = Files.list(Path.of("src/test/java"))) {
      for (Path file : files.toList()) {
        String name = file.getFileName().toString().replace(".java", "");
        holds(name + " is named", readme.contains(name.endsWith("Test") ? "| " + name + " |" : "`" + name + "`"));
      }
    }
  }
}

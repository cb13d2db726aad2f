import java.io.IOException;
import java.lang.reflect.Constructor;
import java.lang.reflect.Field;
import java.lang.reflect.Method;
import java.lang.reflect.Modifier;
import java.nio.file.Files;
import java.nio.file.Path;
import java.util.HashSet;
import java.util.List;
import java.util.Set;
import java.util.regex.Matcher;
import java.util.regex.Pattern;

/** Rules of LANGUAGE.md that can be read off the source and the compiled class. */
public final class LanguageTest {
  private static final Due due = new Due("LanguageTest");
  private static final Set<String> FACE = new HashSet<>(List.of("write", "wipe", "fault", "lay", "person", "near", "about", "pass",
      "weave", "off", "pace", "undo", "behind", "first", "all", "paces", "shy", "spread", "dear", "seen", "kinds", "speeds", "told",
      "rings", "look", "forget", "likely", "season", "keep", "back", "count"));

  public static void main(String[] args) throws IOException {
    face();
    nested();
    String source = Files.readString(Path.of("src/main/java/WreathOrbits.java"));
    members(source);
    source(source);
    due.end();
  }

  private static void rule(String what, boolean kept) {
    due.is(what, kept ? 1 : 0, 1);
  }

  /** Rule 1, 5: the face and no other member that can be seen; static fields are final. */
  private static void face() {
    Class<?> c = WreathOrbits.class;
    rule("public and final", Modifier.isPublic(c.getModifiers()) && Modifier.isFinal(c.getModifiers()));
    Set<String> publics = new HashSet<>();
    for (Method m : c.getDeclaredMethods()) {
      if (Modifier.isPrivate(m.getModifiers())) {
        rule("private " + m.getName() + " bears no public name", !FACE.contains(m.getName()));
      } else {
        rule(m.getName() + " is public, of the face, an int and the only one of its name",
            Modifier.isPublic(m.getModifiers()) && !Modifier.isStatic(m.getModifiers()) && m.getReturnType() == int.class
                && FACE.contains(m.getName()) && publics.add(m.getName()));
      }
    }
    due.is("methods of the face", publics.size(), FACE.size());
    Constructor<?>[] constructors = c.getDeclaredConstructors();
    rule("one public constructor without arguments",
        constructors.length == 1 && Modifier.isPublic(constructors[0].getModifiers()) && constructors[0].getParameterCount() == 0);
    Set<String> constants = Set.of("BAD", "NO", "FULL", "NONE");
    for (Field f : c.getDeclaredFields())
      rule("field " + f.getName(), constants.contains(f.getName()) ? Modifier.isPublic(f.getModifiers()) : Modifier.isPrivate(f.getModifiers()));
    fields(c);
  }

  /** Rule 1: each member stands in the source as in the document, its parameters' names and order, too. */
  private static void members(String source) {
    List<String> members = Face.members();
    due.is("members of the document's face", members.size(), FACE.size() + 2);
    for (String member : members) rule(member, source.contains("\n    " + member + (member.endsWith(")") ? " {\n" : ";\n")));
    rule("the class's own line", source.contains("\npublic final class WreathOrbits {\n"));
  }

  /** Rules 2, 5, 11: static classes inside, few of them, with few fields and short rows of parameters. */
  private static void nested() {
    Class<?>[] inside = WreathOrbits.class.getDeclaredClasses();
    rule("twelve classes at most", inside.length + 1 <= 12);
    for (Class<?> c : inside) {
      rule(c.getName() + " is static and not public", Modifier.isStatic(c.getModifiers()) && !Modifier.isPublic(c.getModifiers()));
      fields(c);
    }
  }

  private static void fields(Class<?> c) {
    int own = 0;
    for (Field f : c.getDeclaredFields()) {
      if (Modifier.isStatic(f.getModifiers())) rule(f.getName() + " is final", Modifier.isFinal(f.getModifiers()));
      else own++;
    }
    rule(c.getName() + " has twenty fields at most", own <= 20);
    for (Method m : c.getDeclaredMethods()) rule(m.getName() + " takes seven arguments at most", m.getParameterCount() <= 7);
  }

  /** Rules 2, 4, 6: words that must not stand in the source, comments and texts left out. */
  private static void source(String source) {
    rule("signs 1 to 127 alone", source.chars().allMatch(c -> c > 0 && c < 128));
    String code = source.replaceAll("(?s)/\\*.*?\\*/", " ").replaceAll("//[^\n]*", " ")
        .replaceAll("\"(\\\\.|[^\"\\\\])*\"", "\"\"").replaceAll("'(\\\\.|[^'\\\\])'", "''");
    String[] words = {"throw", "throws", "try", "catch", "synchronized", "assert", "yield", "var", "->", "::", "package", "Exact\\b", "hashCode",
        "toString", "Object", "double", "float", "System\\.(?!arraycopy)", "Thread", "Random", "static \\{"};
    for (String word : words) {
      String pattern = Character.isLetter(word.charAt(0)) && !word.startsWith("Exact") ? "\\b" + word : word;
      Matcher m = Pattern.compile(pattern + (word.matches("[a-zA-Z]+") ? "\\b" : "")).matcher(code);
      rule("no " + word, !m.find());
    }
    Matcher imports = Pattern.compile("(?m)^import (.*);").matcher(code);
    while (imports.find()) rule("import " + imports.group(1), List.of("java.util.Arrays").contains(imports.group(1)));
    methodsAreShort(code);
  }

  /** Rule 11: some sixty lines a method at most, a method being what a line with four or eight blanks ahead opens. */
  private static void methodsAreShort(String code) {
    String[] lines = code.split("\n");
    for (int i = 0; i < lines.length; i++) {
      Matcher m = Pattern.compile("^((?: {4}){1,2})[^ ].*\\) \\{$").matcher(lines[i]);
      if (!m.matches()) continue;
      int end = i;
      while (end < lines.length && !lines[end].equals(m.group(1) + "}")) end++;
      rule("short: " + lines[i].trim(), end - i <= 60);
    }
  }
}

import java.io.IOException;
import java.nio.file.Files;
import java.nio.file.Path;
import java.util.regex.Matcher;
import java.util.regex.Pattern;

/** The rules of LANGUAGE.md that the text of the program shows. Run from the project's folder. */
public final class LanguageTest {
  private static int wrong = 0;

  private static void expect(boolean holds, String what) {
    if (!holds) {
      wrong++;
      System.out.println(what);
    }
  }

  private static void refuse(String text, String pattern, String rule) {
    Matcher m = Pattern.compile(pattern).matcher(text);
    while (m.find()) expect(false, rule + ": " + m.group());
  }

  private static int countOf(String text, String pattern) {
    return (int) Pattern.compile(pattern).matcher(text).results().count();
  }

  /** From the line of a method's head to the line that closes it, by their indentation. */
  private static void methodsAreShort(String[] lines) {
    Pattern head = Pattern.compile("^( {4}| {8})(\\w[\\w\\[\\] ]*)\\((.*)\\) \\{$");
    for (int i = 0; i < lines.length; i++) {
      Matcher m = head.matcher(lines[i]);
      if (!m.matches()) continue;
      int end = i;
      while (end < lines.length && !lines[end].equals(m.group(1) + "}")) end++;
      expect(end - i <= 60, "rule 11, lines: " + lines[i]);
      expect(m.group(3).split(",").length <= 7, "rule 11, parameters: " + lines[i]);
    }
  }

  public static void main(String[] args) throws IOException {
    String source = Files.readString(Path.of("src/main/java/MatchForge.java"));
    String code = source.replaceAll("(?s)/\\*.*?\\*/", "").replaceAll("//[^\n]*", "");
    expect(source.chars().allMatch(c -> c < 256), "rule 3: characters over 255");
    refuse(code, "\\bpackage\\b[^;]*;", "no package line");
    refuse(code, "\\bimport\\s+(?!java\\.util\\.(Arrays|ArrayList|List|Iterator);)[^;]*;", "rule 4");
    // The arrows of a switch are fine, those of lambdas are not.
    refuse(code.replaceAll("(?m)^\\s*(case [^:>]*|default)\\s*->", ""), "->|::", "rule 2");
    refuse(code, "\\b(throw|throws|try|catch|finally|synchronized|assert)\\b", "rule 6");
    refuse(code, "\\b(boolean equals|int hashCode|String toString)\\s*\\(", "rule 6");
    refuse(code, "\\w+Exact\\b", "rule 4");
    refuse(code, "\\bstatic\\s+(?!final\\b)\\w+(\\[\\])?\\s+\\w+\\s*[=;]", "rule 5");
    refuse(code, "\\bstatic\\s*\\{", "rule 5");
    refuse(code, "\\b(currentTimeMillis|nanoTime|Random|random|Thread|getenv|File)\\b", "rule 13");
    refuse(code, "(?m)^ {4}(?!private |public |static )\\w+.* class ", "rule 1");
    refuse(code, "(?<!static )(?<!static final )(?<!public final )\\bclass\\b", "rule 2");
    expect(countOf(code, "\\bclass\\b") <= 12, "rule 11: too many classes");
    methodsAreShort(source.split("\n"));
    System.out.println(wrong == 0 ? "all as due" : wrong + " wrong");
    if (wrong != 0) System.exit(1);
  }
}

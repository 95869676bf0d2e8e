import java.io.IOException;
import java.net.URL;
import java.net.URLClassLoader;
import java.nio.file.Files;
import java.nio.file.Path;
import java.util.ArrayList;
import java.util.List;
import java.util.regex.Matcher;
import java.util.regex.Pattern;
import javax.tools.JavaCompiler;
import javax.tools.ToolProvider;

/**
 * The examples of README.md, run as they stand there: a line's comment begins with the answer that
 * is due. Run from the project's folder.
 */
public final class ReadmeTest {
  private static final Pattern ASKS = Pattern.compile("(?:int \\w+ = )?(x\\..*);\\s*// (-?\\d+)\\b.*");
  private static final List<String> asked = new ArrayList<>();
  private static final List<Integer> due = new ArrayList<>();

  /** Each line that tells an answer puts it into a list, in the order of the lines. */
  private static String programOf(String readme) {
    StringBuilder body = new StringBuilder();
    boolean inside = false;
    for (String line : readme.split("\n")) {
      if (line.startsWith("```")) {
        inside = line.equals("```java");
        continue;
      }
      if (!inside) continue;
      Matcher m = ASKS.matcher(line);
      if (!m.matches()) {
        body.append(line).append('\n');
        continue;
      }
      asked.add(line);
      due.add(Integer.parseInt(m.group(2)));
      boolean kept = line.startsWith("int ");
      String name = kept ? line.substring(4, line.indexOf(" =")) : m.group(1);
      body.append(kept ? line + "\n" : "").append("got.add(").append(name).append(");\n");
    }
    return "public final class Example {\n"
        + "public static java.util.List<Integer> answers() {\n"
        + "java.util.List<Integer> got = new java.util.ArrayList<>();\n"
        + body + "return got;\n}\n}\n";
  }

  private static List<?> answersOf(String program) throws IOException, ReflectiveOperationException {
    Path folder = Files.createTempDirectory("readme");
    Path file = Files.writeString(folder.resolve("Example.java"), program);
    JavaCompiler compiler = ToolProvider.getSystemJavaCompiler();
    String path = System.getProperty("java.class.path");
    int failed = compiler.run(null, null, null, "-cp", path, "-d", folder.toString(), file.toString());
    if (failed != 0) return List.of();
    try (URLClassLoader loader = new URLClassLoader(new URL[] {folder.toUri().toURL()})) {
      return (List<?>) loader.loadClass("Example").getMethod("answers").invoke(null);
    }
  }

  public static void main(String[] args) throws IOException, ReflectiveOperationException {
    Due.promise(0, "the examples of README.md");
    List<?> got = answersOf(programOf(Files.readString(Path.of("README.md"))));
    Due.due("how many answers", got.size(), due.size());
    Due.due("the examples ask", due.size() > 0 ? 1 : 0, 1);
    for (int i = 0; i < Math.min(got.size(), due.size()); i++) {
      Due.due(asked.get(i), (Integer) got.get(i), due.get(i));
    }
    Due.end();
  }
}

import java.io.IOException;
import java.nio.file.Files;
import java.nio.file.Path;
import java.util.ArrayList;
import java.util.List;
import java.util.regex.Matcher;
import java.util.regex.Pattern;
import javax.tools.ToolProvider;

/** Every example of README.md compiles, and every call in it answers what the comment behind it says. */
public final class ReadmeTest {
  private static final String EXAMPLES = "ReadmeExamples";
  private static final Pattern CALL = Pattern.compile("(desk\\.(\\w+)\\(.*\\)); *// (throws \\w+|[-\\w]+): .+");
  private static final String[] METHODS = {
    "write", "erase", "length", "read", "fault", "sources", "recipe", "stamp", "stampOf", "make", "ran", "reason"};

  private static final List<String> SEEN = new ArrayList<>();

  public static void main(String[] args) throws IOException, ReflectiveOperationException {
    String source = sourceOf(Files.readAllLines(Path.of("README.md")));
    for (String method : METHODS) {
      Checks.due("an example shows " + method, SEEN.contains(method), true);
    }
    runExamples(source);
    Checks.end();
  }

  /** The tests' own directory is the one from which a class that is made now can still be loaded. */
  private static void runExamples(String source) throws IOException, ReflectiveOperationException {
    String classes = System.getProperty("java.class.path");
    Path file = Path.of(classes, EXAMPLES + ".java");
    Files.writeString(file, source);
    int failed = ToolProvider.getSystemJavaCompiler().run(null, null, null, "-cp", classes, "-d", classes, file.toString());
    Checks.due("the exit code of javac for the examples", failed, 0);
    if (failed == 0) {
      Class.forName(EXAMPLES).getDeclaredMethod("run").invoke(null);
    }
  }

  private static String sourceOf(List<String> readme) {
    StringBuilder helpers = new StringBuilder();
    StringBuilder examples = new StringBuilder();
    for (String block : javaBlocks(readme)) {
      if (block.startsWith("static ")) {
        helpers.append(block);
      } else {
        examples.append("{\n").append(compared(block)).append("}\n");
      }
    }
    return "final class " + EXAMPLES + " {\n" + helpers + "static void run() {\n" + examples + "}\n}\n";
  }

  private static List<String> javaBlocks(List<String> readme) {
    List<String> blocks = new ArrayList<>();
    StringBuilder block = null;
    for (String line : readme) {
      if (line.equals("```java")) {
        block = new StringBuilder();
      } else if (line.equals("```") && block != null) {
        blocks.add(block.toString());
        block = null;
      } else if (block != null) {
        block.append(line).append('\n');
      }
    }
    return blocks;
  }

  private static String compared(String block) {
    StringBuilder code = new StringBuilder();
    for (String line : block.split("\n")) {
      Matcher call = CALL.matcher(line);
      if (call.matches()) {
        SEEN.add(call.group(2));
        code.append(comparedCall(call.group(1), call.group(3)));
      } else {
        Checks.due("an answer stands behind " + line, line.startsWith("desk."), false);
        code.append(line).append('\n');
      }
    }
    return code.toString();
  }

  private static String comparedCall(String call, String want) {
    String due = "Checks.due(\"" + call + "\", ";
    if (!want.startsWith("throws ")) {
      return due + call + ", " + want + ");\n";
    }
    String name = '"' + want.substring("throws ".length()) + '"';
    return "try { " + due + call + ", " + name + "); } catch (RuntimeException e) { "
        + due + "e.getClass().getSimpleName(), " + name + "); }\n";
  }
}

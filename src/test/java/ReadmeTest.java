import java.lang.reflect.Method;
import java.lang.reflect.Modifier;
import java.nio.file.Files;
import java.nio.file.Path;
import java.util.TreeSet;
import java.util.regex.Matcher;
import java.util.regex.Pattern;
import javax.tools.ToolProvider;

/** README.md tells the truth: its code compiles, each call answers what stands behind it, its table has every call. */
public final class ReadmeTest {
  private static final Pattern CALL = Pattern.compile("^(river\\.\\w+\\(.*\\)); *// (-?\\d+)");

  /** Blocks that begin with a static method stay as they are; of all others the lines are STEPS of one method. */
  private static String program(String page) {
    StringBuilder helpers = new StringBuilder();
    StringBuilder steps = new StringBuilder();
    Matcher block = Pattern.compile("(?s)```java\n(.*?)```").matcher(page);
    while (block.find()) {
      if (block.group(1).startsWith("static ")) helpers.append(block.group(1));
      else for (String line : block.group(1).split("\n")) steps.append(held(line)).append('\n');
    }
    return "final class ReadmeCode {\n" + helpers + "static void run() {\n" + steps + "}\n}\n";
  }

  private static String held(String line) {
    Matcher call = CALL.matcher(line);
    if (!call.find()) {
      Due.is("an answer stands behind: " + line, line.startsWith("river.") ? 0 : 1, 1);
      return line;
    }
    String name = call.group(1).replace("\\", "\\\\").replace("\"", "\\\"");
    return "Due.is(\"" + name + "\", " + call.group(1) + ", " + call.group(2) + ");";
  }

  private static void runCode(String page) throws Exception {
    Path classes = Path.of(Due.class.getProtectionDomain().getCodeSource().getLocation().toURI());
    Path source = Files.createTempDirectory(classes, "readme").resolve("ReadmeCode.java");
    Files.writeString(source, program(page));
    int failed = ToolProvider.getSystemJavaCompiler().run(null, null, null, "-cp", classes.toString(), "-d", classes.toString(), source.toString());
    Due.is("the code of README.md compiles (0)", failed, 0);
    if (failed != 0) return;
    Method run = Class.forName("ReadmeCode").getDeclaredMethod("run");
    run.setAccessible(true);
    run.invoke(null);
  }

  private static void table(String page) {
    TreeSet<String> told = new TreeSet<>();
    String rows = page.substring(page.indexOf("| calls |"), page.indexOf("## Tests"));
    Matcher row = Pattern.compile("(?m)^\\| ([a-z, ]+) \\|").matcher(rows);
    while (row.find()) for (String name : row.group(1).split(", ")) Due.is("once in the table: " + name, told.add(name) ? 1 : 0, 1);
    told.remove("calls");
    for (Method m : BeliefRiver.class.getDeclaredMethods()) {
      if (Modifier.isPublic(m.getModifiers())) Due.is("in the table: " + m.getName(), told.remove(m.getName()) ? 1 : 0, 1);
    }
    Due.is("in the table, but no call: " + told, told.size(), 0);
  }

  private static void tests(String page) throws Exception {
    try (var files = Files.newDirectoryStream(Path.of("src/test/java"), "*Test.java")) {
      for (Path f : files) {
        String name = f.getFileName().toString().replace(".java", "");
        Due.is("told among the tests: " + name, page.contains("| " + name + " |") ? 1 : 0, 1);
      }
    }
  }

  public static void main(String[] args) throws Exception {
    String page = Files.readString(Path.of("README.md"));
    runCode(page);
    table(page);
    tests(page);
    Due.end("ReadmeTest");
  }
}

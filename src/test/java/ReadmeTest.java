import java.io.IOException;
import java.lang.reflect.Method;
import java.lang.reflect.Modifier;
import java.net.URL;
import java.net.URLClassLoader;
import java.nio.file.Files;
import java.nio.file.Path;
import java.util.List;
import java.util.regex.Matcher;
import java.util.regex.Pattern;
import javax.tools.JavaCompiler;
import javax.tools.ToolProvider;

/**
 * The Java that README.md shows is compiled as it stands there and run from its first line on: a row "call;  // answer: why"
 * has to answer that. README.md shows every call of the face, and names every test. It is run in the project's directory.
 */
public final class ReadmeTest {
  private static final Check CHECK = new Check();
  private static final Pattern BLOCK = Pattern.compile("(?ms)^```java\n(.*?)^```$");
  private static final Pattern SHOWN = Pattern.compile("^(\\w[^;]*\\));\\s+// (-?\\d+|true|false)(?=:|$)");
  private static final int LEAST_SHOWN = 52;

  public static void main(String[] args) throws Exception {
    String readme = Files.readString(Path.of("README.md"));
    run(program(readme));
    everyCallIsShown(readme);
    everyTestIsNamed(readme);
    CHECK.end();
  }

  /** Called by what is compiled from README.md. */
  public static void due(String call, long got, long want) {
    CHECK.due("README.md: " + call, got, want);
  }

  public static void due(String call, boolean got, boolean want) {
    CHECK.due("README.md: " + call, got, want);
  }

  private static String program(String readme) {
    StringBuilder methods = new StringBuilder();
    StringBuilder rows = new StringBuilder();
    int shown = 0;
    Matcher blocks = BLOCK.matcher(readme);
    while (blocks.find()) {
      if (blocks.group(1).startsWith("static ")) {
        methods.append(blocks.group(1));
        continue;
      }
      for (String row : blocks.group(1).split("\n")) {
        Matcher call = SHOWN.matcher(row);
        if (call.find()) {
          shown++;
          rows.append("ReadmeTest.due(\"").append(call.group(1).replace("\"", "\\\"")).append("\", ").append(call.group(1)).append(", ")
              .append(call.group(2)).append(");\n");
        } else {
          CHECK.due("README.md shows no answer for " + row, row.startsWith("quay."), false);
          rows.append(row).append('\n');
        }
      }
    }
    CHECK.due("README.md shows " + shown + " answers", shown >= LEAST_SHOWN, true);
    return "public final class Shown {\n" + methods + "public static void run() {\n" + rows + "}\n}\n";
  }

  private static void run(String program) throws Exception {
    Path made = Files.createTempDirectory("readme");
    try {
      Path source = made.resolve("Shown.java");
      Files.writeString(source, program);
      JavaCompiler compiler = ToolProvider.getSystemJavaCompiler();
      int failed = compiler.run(null, null, null, "-Xlint:all", "-Werror", "-proc:none", "-cp", System.getProperty("java.class.path"), "-d",
          made.toString(), source.toString());
      CHECK.due("README.md is compiled", failed, 0);
      if (failed != 0) return;
      try (URLClassLoader loader = new URLClassLoader(new URL[] {made.toUri().toURL()}, ReadmeTest.class.getClassLoader())) {
        loader.loadClass("Shown").getMethod("run").invoke(null);
      }
    } finally {
      clear(made);
    }
  }

  private static void clear(Path directory) throws IOException {
    for (String name : List.of("Shown.java", "Shown.class")) Files.deleteIfExists(directory.resolve(name));
    Files.delete(directory);
  }

  private static void everyCallIsShown(String readme) {
    Matcher blocks = BLOCK.matcher(readme);
    StringBuilder code = new StringBuilder();
    while (blocks.find()) code.append(blocks.group(1));
    for (Method method : QuayBerths.class.getDeclaredMethods()) {
      if (Modifier.isPublic(method.getModifiers())) {
        CHECK.due("README.md shows " + method.getName(), code.indexOf("quay." + method.getName() + "(") >= 0, true);
      }
    }
  }

  private static void everyTestIsNamed(String readme) throws IOException {
    try (var files = Files.newDirectoryStream(Path.of("src/test/java"), "*.java")) {
      for (Path file : files) {
        String name = file.getFileName().toString().replace(".java", "");
        boolean named = readme.contains(name.endsWith("Test") ? "| " + name + " |" : "`" + name + "`");
        CHECK.due("README.md names " + name, named, true);
      }
    }
  }
}

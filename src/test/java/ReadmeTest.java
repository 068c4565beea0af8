import java.lang.reflect.Method;
import java.lang.reflect.Modifier;
import java.net.URL;
import java.net.URLClassLoader;
import java.nio.file.Files;
import java.nio.file.Path;
import java.util.ArrayList;
import java.util.Comparator;
import java.util.List;
import java.util.regex.Matcher;
import java.util.regex.Pattern;
import java.util.stream.Stream;
import javax.tools.ToolProvider;

/** README.md names every call, and its examples answer as it says: they are compiled and run as they stand there. */
public final class ReadmeTest {
  private static final Pattern EXAMPLE = Pattern.compile("```java\n(.*?)```", Pattern.DOTALL);
  private static final Pattern ANSWERED = Pattern.compile("(x\\..*?);\\s*// (-?\\d+)(:.*)?");
  private static int wrong = 0;
  private static int asked = 0;

  public static void main(String[] args) throws Exception {
    String readme = Files.readString(Path.of("README.md"));
    namesEveryCall(readme);
    Matcher example = EXAMPLE.matcher(readme);
    List<String> bodies = new ArrayList<>();
    while (example.find()) bodies.add(body(example.group(1)));
    if (bodies.isEmpty()) due("an example in README.md", 0, 1);
    run(bodies);
    System.out.println(asked + " answers in " + bodies.size() + " examples of README.md, " + wrong + " wrong");
    if (wrong > 0) System.exit(1);
  }

  /** The examples call it. */
  public static void due(String call, int got, int want) {
    asked++;
    if (got == want) return;
    wrong++;
    System.out.println("README.md: " + call + " answered " + got + ", " + want + " stands there");
  }

  private static void namesEveryCall(String readme) {
    for (Method call : GoodsBook.class.getDeclaredMethods()) {
      if (!Modifier.isPublic(call.getModifiers())) continue;
      due(call.getName() + " in the table of calls", readme.contains("`" + call.getName() + "(") ? 1 : 0, 1);
    }
  }

  private static String body(String example) {
    StringBuilder body = new StringBuilder();
    for (String line : example.split("\n")) {
      Matcher answered = ANSWERED.matcher(line);
      if (answered.matches()) {
        String call = answered.group(1);
        body.append("ReadmeTest.due(\"").append(call).append("\", ").append(call).append(", ").append(answered.group(2)).append(");\n");
      } else {
        body.append(line).append('\n');
      }
    }
    return body.toString();
  }

  private static void run(List<String> bodies) throws Exception {
    StringBuilder source = new StringBuilder("public final class ReadmeExamples {\n");
    for (int i = 0; i < bodies.size(); i++) source.append("public static void example").append(i).append("() {\n").append(bodies.get(i)).append("}\n");
    Path folder = Files.createTempDirectory("readme");
    try {
      Path file = folder.resolve("ReadmeExamples.java");
      Files.writeString(file, source.append("}\n"));
      String path = System.getProperty("java.class.path");
      int failed = ToolProvider.getSystemJavaCompiler().run(null, null, null, "-cp", path, "-d", folder.toString(), file.toString());
      due("compiling the examples", failed, 0);
      if (failed == 0) callAll(folder, bodies.size());
    } finally {
      remove(folder);
    }
  }

  private static void callAll(Path folder, int examples) throws Exception {
    try (URLClassLoader loader = new URLClassLoader(new URL[] {folder.toUri().toURL()}, ReadmeTest.class.getClassLoader())) {
      Class<?> all = loader.loadClass("ReadmeExamples");
      for (int i = 0; i < examples; i++) all.getMethod("example" + i).invoke(null);
    }
  }

  private static void remove(Path folder) throws Exception {
    try (Stream<Path> files = Files.walk(folder)) {
      for (Path file : files.sorted(Comparator.reverseOrder()).toList()) Files.delete(file);
    }
  }
}

import java.io.ByteArrayOutputStream;
import java.io.PrintStream;
import java.lang.reflect.Method;
import java.lang.reflect.Modifier;
import java.net.URL;
import java.net.URLClassLoader;
import java.nio.charset.StandardCharsets;
import java.nio.file.Files;
import java.nio.file.Path;
import java.util.Comparator;
import java.util.List;
import java.util.regex.Matcher;
import java.util.regex.Pattern;
import java.util.spi.ToolProvider;
import java.util.stream.Collectors;
import java.util.stream.Stream;

/** README.md tells the truth: its program prints what it says, and its table has every call of the face. */
public final class ReadmeTests {
  private static int wrong = 0;

  public static void main(String[] args) throws Exception {
    String readme = Files.readString(Path.of("README.md")).replace("\r\n", "\n");
    Path folder = Files.createTempDirectory("readme");
    try {
      String printed = run(folder, block(readme, "java"));
      check(printed.equals(block(readme, "text")), "the program prints\n" + printed);
    } finally {
      remove(folder);
    }
    table(readme);
    System.out.println(wrong == 0 ? "README.md holds" : wrong + " faults of README.md");
    if (wrong != 0) {
      System.exit(1);
    }
  }

  private static void check(boolean holds, String what) {
    if (!holds) {
      wrong++;
      System.out.println("README.md does not hold: " + what);
    }
  }

  private static String block(String readme, String language) {
    Matcher m = Pattern.compile("(?s)```" + language + "\n(.*?)```").matcher(readme);
    boolean found = m.find();
    check(found, "there is a block of " + language);
    return found ? m.group(1) : "";
  }

  private static String run(Path folder, String program) throws Exception {
    Path file = folder.resolve("Example.java");
    Files.writeString(file, program);
    URL classes = LegBench.class.getProtectionDomain().getCodeSource().getLocation();
    ToolProvider javac = ToolProvider.findFirst("javac").orElseThrow();
    int code = javac.run(System.out, System.out, "-cp", Path.of(classes.toURI()).toString(),
        "-d", folder.toString(), file.toString());
    check(code == 0, "the program compiles");
    return code == 0 ? printedBy(folder) : "";
  }

  private static String printedBy(Path folder) throws Exception {
    ByteArrayOutputStream bytes = new ByteArrayOutputStream();
    PrintStream before = System.out;
    System.setOut(new PrintStream(bytes, true, StandardCharsets.UTF_8));
    try (URLClassLoader loader = new URLClassLoader(new URL[] {folder.toUri().toURL()})) {
      Method main = loader.loadClass("Example").getMethod("main", String[].class);
      main.invoke(null, (Object) new String[0]);
    } finally {
      System.setOut(before);
    }
    return bytes.toString(StandardCharsets.UTF_8).replace("\r\n", "\n");
  }

  // Each call of the face has one line of the table, with as many names in brackets as it takes numbers.
  private static void table(String readme) {
    List<String> lines = readme.lines().filter(line -> line.startsWith("| `")).collect(Collectors.toList());
    int calls = 0;
    for (Method m : LegBench.class.getDeclaredMethods()) {
      if (Modifier.isPublic(m.getModifiers())) {
        calls++;
        String names = Stream.generate(() -> "\\w+").limit(m.getParameterCount()).collect(Collectors.joining(", "));
        Pattern line = Pattern.compile("\\| `" + m.getName() + "\\(" + names + "\\)` \\|.*");
        long found = lines.stream().filter(text -> line.matcher(text).matches()).count();
        check(found == 1, "the table has " + m.getName() + " " + found + " times");
      }
    }
    check(lines.size() == calls, "the table has " + lines.size() + " lines for " + calls + " calls");
  }

  private static void remove(Path folder) throws Exception {
    try (Stream<Path> files = Files.walk(folder)) {
      for (Path file : files.sorted(Comparator.reverseOrder()).collect(Collectors.toList())) {
        Files.delete(file);
      }
    }
  }
}

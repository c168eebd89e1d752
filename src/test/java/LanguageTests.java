import java.io.File;
import java.io.PrintWriter;
import java.io.StringWriter;
import java.lang.reflect.Constructor;
import java.lang.reflect.Field;
import java.lang.reflect.Method;
import java.lang.reflect.Modifier;
import java.nio.file.Files;
import java.nio.file.Path;
import java.util.List;
import java.util.Map;
import java.util.Set;
import java.util.TreeMap;
import java.util.TreeSet;
import java.util.regex.Matcher;
import java.util.regex.Pattern;
import java.util.spi.ToolProvider;

/** What of LANGUAGE.md and of the room can be seen by a machine: the face, words that are ruled out, sizes. */
public final class LanguageTests {
  private static final Path SOURCE = Path.of("src/main/java/LegBench.java");
  private static final List<String> FACE = List.of(
      "boolean leg3", "boolean middle2", "boolean pace2", "boolean pick3", "boolean regular3",
      "boolean tick2", "boolean undo0", "boolean walker2", "boolean walks0", "int about1", "int best2", "int down1",
      "int fastest0", "int foot3", "int gait6", "int loads1", "int many2", "int rank2", "int stands1", "int unlike2",
      "int way3", "int why0", "int without3", "long margin2", "long worst1");
  private static int wrong = 0;

  public static void main(String[] args) throws Exception {
    String code = stripped(Files.readString(SOURCE));
    face();
    nestedClasses();
    words(code);
    depth();
    room();
    neverThrows();
    System.out.println(wrong == 0 ? "the language is kept" : wrong + " rules are not kept");
    if (wrong != 0) {
      System.exit(1);
    }
  }

  private static void check(boolean holds, String rule) {
    if (!holds) {
      wrong++;
      System.out.println("not kept: " + rule);
    }
  }

  // Comments and texts may say what the code may not.
  private static String stripped(String source) {
    return source.replaceAll("(?s)/\\*.*?\\*/", "").replaceAll("//[^\\n]*", "").replaceAll("\"[^\"\\n]*\"", "\"\"");
  }

  private static void face() {
    Set<String> shown = new TreeSet<>();
    Set<String> names = new TreeSet<>();
    for (Method m : LegBench.class.getDeclaredMethods()) {
      if (!Modifier.isPrivate(m.getModifiers())) {
        shown.add(m.getReturnType() + " " + m.getName() + m.getParameterCount());
        names.add(m.getName());
        check(Modifier.isPublic(m.getModifiers()) && !Modifier.isStatic(m.getModifiers()), "public: " + m);
      }
    }
    check(shown.equals(new TreeSet<>(FACE)), "the face is " + shown);
    for (Field f : LegBench.class.getDeclaredFields()) {
      check(Modifier.isPrivate(f.getModifiers()) || f.getName().equals("NONE"), "private: " + f);
    }
    Constructor<?>[] makers = LegBench.class.getDeclaredConstructors();
    check(makers.length == 1 && Modifier.isPublic(makers[0].getModifiers()), "one public constructor");
    check(Modifier.isFinal(LegBench.class.getModifiers()), "a final class");
    for (Class<?> c : LegBench.class.getDeclaredClasses()) {
      for (Method m : c.getDeclaredMethods()) {
        check(!names.contains(m.getName()), "no name of the face: " + m);
      }
    }
    for (Method m : LegBench.class.getDeclaredMethods()) {
      check(!Modifier.isPrivate(m.getModifiers()) || !names.contains(m.getName()), "no name of the face: " + m);
    }
  }

  private static void nestedClasses() {
    Class<?>[] inside = LegBench.class.getDeclaredClasses();
    check(inside.length < 12, "at most twelve classes");
    for (Class<?> c : inside) {
      check(Modifier.isStatic(c.getModifiers()) && !Modifier.isPublic(c.getModifiers()), "static, not public: " + c);
      check(c.getDeclaredFields().length <= 20, "at most twenty fields: " + c);
      for (Field f : c.getDeclaredFields()) {
        check(!Modifier.isStatic(f.getModifiers()) || Modifier.isFinal(f.getModifiers()), "static is final: " + f);
      }
      for (Method m : c.getDeclaredMethods()) {
        check(m.getParameterCount() <= 7, "at most seven parameters: " + m);
      }
    }
  }

  private static void words(String code) {
    Matcher m = Pattern.compile("\\b(throw|throws|try|catch|finally|synchronized|assert|import|package|double|float"
        + "|System|Thread|Random|Object|equals|hashCode|toString|\\w+Exact)\\b|->|::|@|\\+ \"|\" \\+").matcher(code);
    while (m.find()) {
      check(false, "a word that is ruled out: " + m.group());
    }
    int longest = 0;
    int since = 0;
    for (String line : code.split("\n")) {
      since = line.matches("  (  )?\\}") ? 0 : since + 1;
      longest = Math.max(longest, line.startsWith("      ") ? since : 0);
    }
    check(longest <= 60, "methods of some sixty lines at most: " + longest);
  }

  // Each method with those that it calls, of the class's own code, as javap tells them.
  private static Map<String, Set<String>> calls() throws Exception {
    ToolProvider javap = ToolProvider.findFirst("javap").orElseThrow();
    Path place = Path.of(LegBench.class.getProtectionDomain().getCodeSource().getLocation().toURI());
    Map<String, Set<String>> calls = new TreeMap<>();
    for (File file : place.toFile().listFiles((folder, name) -> name.matches("LegBench(\\$\\w+)?\\.class"))) {
      String owner = file.getName().replace(".class", "");
      StringWriter text = new StringWriter();
      javap.run(new PrintWriter(text), new PrintWriter(System.err), "-c", "-p", file.getPath());
      addCalls(owner, text.toString(), calls);
    }
    return calls;
  }

  private static void addCalls(String owner, String text, Map<String, Set<String>> calls) {
    Pattern head = Pattern.compile("  \\S.*?([\\w$]+)\\(.*\\);");
    Pattern call = Pattern.compile("// (?:Interface)?Method (?:([\\w$]+)\\.)?\"?([\\w<>]+)\"?:");
    String from = "";
    for (String line : text.split("\\R")) {
      Matcher h = head.matcher(line);
      Matcher c = call.matcher(line);
      if (h.matches()) {
        from = owner + "." + (h.group(1).equals(owner) ? "<init>" : h.group(1));
        calls.putIfAbsent(from, new TreeSet<>());
      } else if (c.find() && calls.containsKey(from)) {
        calls.get(from).add((c.group(1) == null ? owner : c.group(1)) + "." + c.group(2));
      }
    }
  }

  // The public call counts as the first level; a recursion would go beyond any bound, so it is cut off.
  private static int depthOf(String method, Map<String, Set<String>> calls, int open) {
    int deepest = 0;
    for (String next : open > 20 ? Set.<String>of() : calls.getOrDefault(method, Set.of())) {
      deepest = Math.max(deepest, depthOf(next, calls, open + 1));
    }
    return deepest + 1;
  }

  private static void depth() throws Exception {
    Map<String, Set<String>> calls = calls();
    check(depthOf("LegBench.down", calls, 1) == 2, "the calls can be read");
    for (Method m : LegBench.class.getDeclaredMethods()) {
      int deep = depthOf("LegBench." + m.getName(), calls, 1);
      check(deep <= 8, "calls at most eight deep: " + m.getName() + " goes " + deep);
    }
  }

  private static long allocated() {
    return ((com.sun.management.ThreadMXBean) java.lang.management.ManagementFactory.getThreadMXBean())
        .getThreadAllocatedBytes(Thread.currentThread().getId());
  }

  // What an object holds is made once: half a thousand of the dearest calls make next to nothing.
  private static void room() {
    LegBench x = new LegBench();
    x.walker(5, 1);
    x.many(7, 1);
    long before = allocated();
    for (int i = 0; i < 100; i++) {
      x.pace(i % 3, 40);
      x.best(7, 2);
      x.unlike(7, 2);
      x.way(31, 15, 1);
      x.undo();
    }
    long calls = allocated() - before;
    check(calls < 20_000, "500 calls take " + calls + " bytes");
    before = allocated();
    LegBench[] made = new LegBench[100];
    for (int i = 0; i < made.length; i++) {
      made[i] = new LegBench();
    }
    long each = (allocated() - before) / made.length;
    check(each < 12_000, "an object takes " + each + " bytes");
    check(made[99].about(0) == 4, "the objects are used");
  }

  // Each number that is on an edge somewhere, at each place of each call.
  private static void neverThrows() {
    int[] odd = {Integer.MIN_VALUE, -21, -1, 0, 1, 2, 8, 9, 16, 31, 255, 256, Integer.MAX_VALUE};
    for (int k = 2; k <= 8; k += 3) {
      for (int kind = 0; kind <= 2; kind++) {
        LegBench x = new LegBench();
        x.walker(k, kind);
        for (int a : odd) {
          for (int b : odd) {
            try {
              ask(x, a, b, odd);
            } catch (RuntimeException e) {
              check(false, "no call throws: " + e + " with " + a + ", " + b);
            }
          }
        }
      }
    }
  }

  private static void ask(LegBench x, int a, int b, int[] odd) {
    x.about(a);
    x.down(a);
    x.stands(a);
    x.margin(a, b);
    x.worst(a);
    x.loads(a);
    x.many(a, b);
    x.rank(a, b);
    x.unlike(a, b);
    x.middle(a, b);
    x.pace(a, b);
    x.tick(a, b);
    x.best(a, b);
    for (int c : odd) {
      x.leg(a, b, c);
      x.foot(a, b, c);
      x.way(a, b, c);
      x.gait(a, b, c, c, c, c);
      x.regular(a, b, c);
      x.pick(a, b, c);
      x.without(c, a, b);
      x.gait(0, 1 + Math.floorMod(c, 16), a, b, c, a);
      x.walks();
      x.why();
      x.fastest();
      x.undo();
    }
  }
}

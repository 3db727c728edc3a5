import java.lang.reflect.Method;
import java.lang.reflect.Modifier;
import java.net.URL;
import java.net.URLClassLoader;
import java.nio.file.Files;
import java.nio.file.Path;
import java.util.ArrayList;
import java.util.List;
import java.util.Map;
import java.util.Set;
import java.util.TreeSet;
import java.util.regex.Matcher;
import java.util.regex.Pattern;
import javax.tools.ToolProvider;

/** README.md's own Java is compiled and run as it stands there: each call answers what is written behind it. */
public final class BottleFourReadme {
  private static final Path README = Path.of("README.md");
  private static final String RUN = "ReadmeCalls";
  private static final Map<String, Integer> NAMED = Map.of(
      "BAD", BottleFour.BAD, "STATE", BottleFour.STATE, "FULL", BottleFour.FULL, "NONE", BottleFour.NONE);
  private static final Pattern SHOWN = Pattern.compile("(\\w.*\\));\\s+// (-?\\d+|BAD|STATE|FULL|NONE)(?![\\w-]).*");
  private static final Pattern NAME = Pattern.compile("\\.(\\w+)\\(");

  private static final List<String> calls = new ArrayList<>();
  private static final List<Long> answers = new ArrayList<>();
  private static final StringBuilder members = new StringBuilder();
  private static final StringBuilder statements = new StringBuilder();

  private static void take(String block, int line) {
    if (block.startsWith("static ")) {
      members.append(block);
      return;
    }
    for (String code : block.split("\n")) {
      takeStatement(code.trim(), line);
      line++;
    }
  }

  private static void takeStatement(String code, int line) {
    Matcher shown = SHOWN.matcher(code);
    if (shown.matches()) {
      statements.append("got[").append(calls.size()).append("] = ").append(shown.group(1)).append(";\n");
      calls.add("README.md, line " + line + ": " + shown.group(1));
      String answer = shown.group(2);
      answers.add(NAMED.containsKey(answer) ? NAMED.get(answer) : Long.parseLong(answer));
      return;
    }
    // A call whose answer is not shown would not be tested.
    if (code.replace("new BottleFour()", "").contains("(")) {
      Checks.complain("README.md, line " + line + ": shows no answer: " + code);
    }
    statements.append(code).append('\n');
  }

  private static void takeAll(String readme) {
    Matcher block = Pattern.compile("(?ms)^```java\\n(.*?)^```$").matcher(readme);
    while (block.find()) {
      take(block.group(1), readme.substring(0, block.start(1)).split("\n", -1).length);
    }
  }

  private static long[] run(Path folder) throws Exception {
    Path source = folder.resolve(RUN + ".java");
    Files.writeString(source, "public class " + RUN + " {\n" + members + "public static long[] run() {\n"
        + "long[] got = new long[" + calls.size() + "];\n" + statements + "return got;\n}\n}\n");
    int refused = ToolProvider.getSystemJavaCompiler().run(null, System.out, System.out,
        "-proc:none", "-cp", System.getProperty("java.class.path"), "-d", folder.toString(), source.toString());
    if (refused != 0) {
      Checks.complain("README.md's code does not compile");
      return new long[0];
    }
    try (URLClassLoader loader = new URLClassLoader(new URL[] {folder.toUri().toURL()})) {
      return (long[]) loader.loadClass(RUN).getMethod("run").invoke(null);
    }
  }

  private static void allAnswersAreAsShown() throws Exception {
    Path folder = Files.createTempDirectory("readme");
    try {
      long[] got = run(folder);
      for (int i = 0; i < got.length; i++) Checks.due(calls.get(i), got[i], answers.get(i));
    } finally {
      for (String end : new String[] {".java", ".class"}) Files.deleteIfExists(folder.resolve(RUN + end));
      Files.deleteIfExists(folder);
    }
  }

  private static void everyCallIsShown() {
    Set<String> missing = new TreeSet<>();
    for (Method m : BottleFour.class.getDeclaredMethods()) {
      if (Modifier.isPublic(m.getModifiers())) missing.add(m.getName());
    }
    Matcher used = NAME.matcher(members + "\n" + String.join("\n", calls));
    while (used.find()) missing.remove(used.group(1));
    if (!missing.isEmpty()) Checks.complain("README.md does not show " + missing);
  }

  private static void everyRefusalIsTold(String readme) {
    NAMED.forEach((name, value) -> {
      if (!readme.contains("`" + name + "` (" + value + ")")) Checks.complain("README.md does not tell " + name);
    });
  }

  public static void main(String[] args) throws Exception {
    String readme = Files.readString(README);
    takeAll(readme);
    allAnswersAreAsShown();
    everyCallIsShown();
    everyRefusalIsTold(readme);
    Checks.finish("README.md shows " + calls.size() + " answers, all as they are");
  }
}

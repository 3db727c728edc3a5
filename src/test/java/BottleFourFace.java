import java.io.IOException;
import java.lang.management.ManagementFactory;
import java.lang.reflect.Constructor;
import java.lang.reflect.Field;
import java.lang.reflect.Method;
import java.lang.reflect.Modifier;
import java.nio.file.Files;
import java.nio.file.Path;
import java.util.Arrays;
import java.util.HashSet;
import java.util.Set;
import java.util.TreeSet;
import java.util.regex.Matcher;
import java.util.regex.Pattern;

/** The public face is the document's, the source keeps to LANGUAGE.md, calls make no objects. */
public final class BottleFourFace {
  private static final String SOURCE = "src/main/java/BottleFour.java";
  private static final String DOCUMENT = "../shared/DOC.md";
  private static final Set<String> FACE = new TreeSet<>();
  private static int wrong = 0;

  private static void hold(String what, boolean is) {
    if (!is) {
      wrong++;
      System.out.println("does not hold: " + what);
    }
  }

  /** Takes the face from the document; the source has each line of it to the letter, its names, too. */
  private static void readTheFace() throws IOException {
    String all = Files.readString(Path.of(DOCUMENT));
    String source = Files.readString(Path.of(SOURCE));
    Matcher face = Pattern.compile("(?s)## The public face.*?```java\\n(.*?)```").matcher(all);
    boolean isTold = face.find();
    hold("the document has a face", isTold);
    for (String line : (isTold ? face.group(1) : "").split("\n")) {
      String told = line.trim();
      hold("the source has " + told, source.contains(told.endsWith(");") ? told.replace(";", " {") : told));
      Matcher call = Pattern.compile("public (int|long) (\\w+)\\((.*)\\);").matcher(told);
      if (!call.matches()) continue;
      String types = call.group(3).replaceAll("(\\w+) \\w+", "$1").replace(" ", "");
      FACE.add(call.group(2) + "(" + types + "):" + call.group(1));
    }
    hold("40 calls are told", FACE.size() == 40);
  }

  private static String signature(Method m) {
    StringBuilder s = new StringBuilder(m.getName()).append('(');
    for (Class<?> c : m.getParameterTypes()) s.append(s.charAt(s.length() - 1) == '(' ? "" : ",").append(c);
    return s.append("):").append(m.getReturnType()).toString();
  }

  private static void faceIsAsTold() throws Exception {
    Set<String> got = new TreeSet<>();
    for (Method m : BottleFour.class.getDeclaredMethods()) {
      if (Modifier.isPublic(m.getModifiers())) {
        got.add(signature(m));
        hold(m + " is asked of an object", !Modifier.isStatic(m.getModifiers()));
      } else {
        hold(m + " is private", Modifier.isPrivate(m.getModifiers()));
      }
    }
    hold("methods " + got, got.equals(FACE));
    hold("final class", Modifier.isFinal(BottleFour.class.getModifiers()));
    Constructor<?>[] made = BottleFour.class.getDeclaredConstructors();
    hold("one constructor", made.length == 1 && Modifier.isPublic(made[0].getModifiers())
        && made[0].getParameterCount() == 0);
    String[] names = {"BAD", "STATE", "FULL", "NONE"};
    for (int i = 0; i < 4; i++) {
      Field f = BottleFour.class.getField(names[i]);
      hold(names[i], f.getType() == int.class && f.getInt(null) == -1 - i && Modifier.isFinal(f.getModifiers()));
    }
    for (Field f : BottleFour.class.getDeclaredFields()) {
      hold(f + " is private", Modifier.isPrivate(f.getModifiers()) || Arrays.asList(names).contains(f.getName()));
    }
  }

  private static void namesAreApart() {
    Set<String> faceNames = new HashSet<>();
    for (String s : FACE) faceNames.add(s.substring(0, s.indexOf('(')));
    for (Class<?> inside : BottleFour.class.getDeclaredClasses()) {
      hold(inside + " is static", Modifier.isStatic(inside.getModifiers()));
      hold(inside + " has some twenty fields at most", fieldsOf(inside) <= 20);
      for (Method m : inside.getDeclaredMethods()) hold(m + " has a name of its own", !faceNames.contains(m.getName()));
    }
    hold("BottleFour has some twenty fields at most", fieldsOf(BottleFour.class) <= 20);
    for (Method m : BottleFour.class.getDeclaredMethods()) {
      hold(m + " has a name of its own", Modifier.isPublic(m.getModifiers()) || !faceNames.contains(m.getName()));
    }
  }

  private static long fieldsOf(Class<?> c) {
    return Arrays.stream(c.getDeclaredFields()).filter(f -> !Modifier.isStatic(f.getModifiers())).count();
  }

  private static void sourceKeepsToTheLanguage() throws IOException {
    String code = Files.readString(Path.of(SOURCE)).replaceAll("(?s)/\\*.*?\\*/", " ").replaceAll("//[^\n]*", " ")
        .replaceAll("\"[^\"]*\"", "\"\"");
    for (String word : new String[] {"throw", "throws", "try", "catch", "finally", "synchronized", "assert", "import",
        "package", "double", "float", "instanceof", "protected", "System", "Thread", "Object", "volatile"}) {
      hold("no " + word, !Pattern.compile("\\b" + word + "\\b").matcher(code).find());
    }
    for (String sign : new String[] {"->", "::", "Exact", "@"}) hold("no " + sign, !code.contains(sign));
    for (char c : code.toCharArray()) hold("signs 1 to 127", c >= 1 && c <= 127);
  }

  private static long bytesMade() {
    return ((com.sun.management.ThreadMXBean) ManagementFactory.getThreadMXBean())
        .getThreadAllocatedBytes(Thread.currentThread().getId());
  }

  private static void dearCalls(BottleFour x) {
    for (char c : "one sly 1 9;one giver 2 9;one last 3 9;one thirsty 1 9;well 9 3 12;well 5 5 5;bottle 9;".toCharArray()) {
      x.feed(c);
    }
    x.text();
    x.see(24, 9);
    for (int i = 0; i < 20; i++) {
      x.fits(0);
      x.kinds(0);
      x.late(1);
      x.least();
      x.luck(1, 2, 0);
      x.mean(2, 1);
      x.stay(96, 0);
      x.keep(0);
      x.back(0);
      x.sheet(i % 4, i % 3, 40);
      x.read(i % 4, i % 3, 0, 20);
    }
  }

  private static void callsMakeNoObjects() {
    BottleFour x = new BottleFour();
    dearCalls(x);
    long before = bytesMade();
    dearCalls(x);
    long made = bytesMade() - before;
    hold("calls make no objects, but made bytes: " + made, made < 20000);
  }

  public static void main(String[] args) throws Exception {
    readTheFace();
    faceIsAsTold();
    namesAreApart();
    sourceKeepsToTheLanguage();
    callsMakeNoObjects();
    System.out.println(wrong == 0 ? "the face is as told" : wrong + " do not hold");
    if (wrong != 0) System.exit(1);
  }
}

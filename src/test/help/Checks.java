import java.io.IOException;
import java.nio.file.Files;
import java.nio.file.Path;
import java.util.BitSet;
import java.util.LinkedHashMap;
import java.util.Map;

/** What the tests share: answers that are due, sentences of the document, states to try calls in. */
class Checks {
  static final int BAD = -1, STATE = -2, FULL = -3, NONE = -4;
  static final int MIN = Integer.MIN_VALUE, MAX = Integer.MAX_VALUE;

  private static final String DOCUMENT = "../shared/DOC.md";
  private static final Map<String, String> SECTIONS = new LinkedHashMap<>();
  private static final Map<String, BitSet> MARKED = new LinkedHashMap<>();
  private static String mark = "";
  private static int duesOfMark = 1;
  private static int wrong = 0;

  /** A call, or several, made on an object; its answer is the last one's. */
  interface Call {
    long on(BottleFour x);
  }

  /** A call of which one number is tried. */
  interface Ask {
    long on(BottleFour x, int v);
  }

  // ---- answers

  static void complain(String what) {
    wrong++;
    System.out.println(mark.isEmpty() ? what : mark + ": " + what);
  }

  static void due(String call, long got, long want) {
    duesOfMark++;
    if (got != want) complain(call + " answered " + got + ", due is " + want);
  }

  static void same(String call, String got, String want) {
    duesOfMark++;
    if (!got.equals(want)) complain(call + " shows\n  " + got + "\n  due is\n  " + want);
  }

  static void fraction(String call, long numerator, long denominator, long a, long b) {
    due(call + " numerator", numerator, a);
    due(call + " denominator", denominator, b);
  }

  static void finish(String allIsWell) {
    closeMark();
    System.out.println(wrong == 0 ? allIsWell : wrong + " answers are not as due");
    if (wrong != 0) System.exit(1);
  }

  // ---- texts

  static void feedAll(BottleFour x, String text) {
    for (char c : text.toCharArray()) x.feed(c);
  }

  static int tell(BottleFour x, String text) {
    feedAll(x, text);
    return x.text();
  }

  static BottleFour of(String text) {
    BottleFour x = new BottleFour();
    int lines = tell(x, text);
    if (lines < 0) complain("text() of '" + text + "' answered " + lines);
    return x;
  }

  static void taken(String text, int lines) {
    BottleFour x = new BottleFour();
    due("text() of '" + text + "'", tell(x, text), lines);
    due("fault() of '" + text + "'", x.fault(), 0);
  }

  static void faulty(String text, int fault, int place) {
    BottleFour x = new BottleFour();
    due("text() of '" + text + "'", tell(x, text), -10 - place);
    due("fault() of '" + text + "'", x.fault(), fault);
  }

  // ---- what an object shows

  static String rules(BottleFour x) {
    StringBuilder s = new StringBuilder("rules");
    for (int what = 0; what <= 8; what++) s.append(' ').append(x.rule(what));
    return s.toString();
  }

  static String levels(BottleFour x) {
    StringBuilder s = new StringBuilder("levels");
    for (int p = 0; p < x.rule(0); p++) s.append(' ').append(x.one(p, 2));
    return s.toString();
  }

  static String counts(BottleFour x) {
    StringBuilder s = new StringBuilder("counts");
    for (int what = 0; what <= 6; what++) s.append(' ').append(x.count(what));
    return s.toString();
  }

  /** People, wells and what is told by rule(), as an image or a text sets them. */
  static String camp(BottleFour x) {
    StringBuilder s = new StringBuilder(rules(x));
    for (int p = 0; p < 4; p++) {
      s.append("; one");
      for (int what = 0; what < 3; what++) s.append(' ').append(x.one(p, what));
    }
    for (int i = 0; i < 3; i++) {
      s.append("; well");
      for (int what = 0; what < 4; what++) s.append(' ').append(x.well(i, what));
    }
    return s.toString();
  }

  /** A state in which everything that a call could change by mistake is there; 198 calls. */
  static BottleFour rich() {
    BottleFour x = of("one measured 2 12;one sly 1 10;one giver 3 14;one last 1 0;bottle 30;goal 20 18;plan night;"
        + "well 9 3 12;well 15 10 8;well 2 5 5;dew 3;found 2;dry 1;");
    x.sheet(0, 0, 4);
    x.put(0, 1, 1);
    x.put(0, 2, 1);
    x.put(0, 3, 2);
    x.sheet(1, 1, 5);
    x.put(1, 0, 1);
    x.put(1, 1, 3);
    x.sheet(2, 2, 2);
    x.put(2, 0, 2);
    x.put(2, 1, 1);
    x.keep(0);
    x.go(2);
    x.keep(1);
    x.fill(25);
    x.teach(0, 3);
    x.see(1, 25);
    x.see(2, 24);
    x.read(3, 0, 0, 1);
    tell(x, "#");
    feedAll(x, "bottle 7;dew 2;");
    return x;
  }

  /** All that later calls show of an object, which is used up by it; some 190 calls. */
  static String probe(BottleFour x) {
    StringBuilder s = new StringBuilder();
    s.append(x.fault()).append(' ').append(x.torn()).append(' ').append(x.pours()).append(' ');
    s.append(camp(x)).append("; ").append(counts(x)).append("; ahead");
    for (int what = 0; what < 3; what++) s.append(' ').append(x.ahead(7, what));
    s.append("; odds ").append(x.luck(1, 2, 0)).append(' ').append(x.stay(40, 0));
    for (int n = x.count(0); n >= 0; n--) {
      x.forget(n);
      s.append("; fits ").append(x.fits(0)).append(' ').append(x.fits(1));
    }
    probeSheets(x, s);
    for (int k = 0; k < 2; k++) s.append("; image ").append(x.back(k)).append(' ').append(camp(x));
    s.append("; text ").append(x.text()).append(' ').append(x.fault()).append(' ').append(rules(x));
    return s.toString();
  }

  private static void probeSheets(BottleFour x, StringBuilder s) {
    for (int k = 0; k < 4; k++) {
      s.append("; sheet");
      for (int lane = 0; lane < 3; lane++) {
        s.append(' ').append(x.read(k, lane, 0, 1)).append(' ').append(x.torn());
      }
      for (int i = 1; i <= 5; i++) s.append(' ').append(x.put(k, i, 0));
      s.append(' ').append(levels(x)).append(' ').append(x.rule(5));
    }
    s.append(' ').append(x.read(0, 0, 2, 1)).append(' ').append(levels(x));
  }

  // ---- what is refused, what is only asked

  private static void leaves(String call, Call prepare, Call c, boolean asksForAnswer, long answer) {
    BottleFour touched = rich();
    BottleFour left = rich();
    prepare.on(touched);
    prepare.on(left);
    long got = c.on(touched);
    if (asksForAnswer) due(call, got, answer);
    same(call + " changes something: it", probe(touched), probe(left));
  }

  /** The call answers so in the rich state, made ready first, and changes nothing that is shown. */
  static void refused(String call, Call prepare, Call c, long answer) {
    leaves(call, prepare, c, true, answer);
  }

  static void refused(String call, Call c, long answer) {
    refused(call, x -> 0, c, answer);
  }

  /** The call, whatever it answers, changes nothing that is shown. */
  static void onlyAsks(String call, Call c) {
    leaves(call, x -> 0, c, false, 0);
  }

  /** From the lowest to the highest the number is as told, the next ones and those far off are BAD. */
  static void bounds(String call, int lowest, int highest, Ask ask) {
    for (int v : new int[] {lowest, highest}) {
      duesOfMark++;
      if (ask.on(rich(), v) == BAD) complain(call + " of " + v + " is BAD, but is as told");
    }
    for (int v : new int[] {lowest - 1, highest + 1, MIN, MAX}) {
      refused(call + " of " + v, x -> ask.on(x, v), BAD);
    }
  }

  // ---- the document's sentences

  /** What comes behind tests this sentence of this section; the words are the document's. */
  static void sentence(String section, String words) {
    closeMark();
    mark = section + ", \"" + words + "\"";
    duesOfMark = 0;
    String body = sections().get(section);
    int at = body == null ? -1 : body.indexOf(words);
    if (at < 0) complain("the document does not say so there");
    // The same words may stand there more than once: then they are tested for all.
    for (; at >= 0; at = body.indexOf(words, at + 1)) {
      MARKED.computeIfAbsent(section, k -> new BitSet()).set(at, at + words.length());
    }
  }

  private static void closeMark() {
    if (duesOfMark == 0) complain("nothing is tested");
    mark = "";
    duesOfMark = 1;
  }

  /** Each word of the section stands in a sentence that was tested. */
  static void allIsTestedOf(String section) {
    closeMark();
    String body = sections().getOrDefault(section, "");
    BitSet marked = MARKED.getOrDefault(section, new BitSet());
    StringBuilder rest = new StringBuilder();
    for (int i = 0; i < body.length(); i++) {
      rest.append(marked.get(i) ? "" : body.charAt(i));
    }
    if (body.isEmpty() || !rest.toString().isBlank()) complain(section + " has words without a test: " + rest);
  }

  private static Map<String, String> sections() {
    if (!SECTIONS.isEmpty()) return SECTIONS;
    String all;
    try {
      all = Files.readString(Path.of(DOCUMENT));
    } catch (IOException e) {
      throw new IllegalStateException("the document is not at " + DOCUMENT, e);
    }
    for (String part : all.split("(?m)^## ")) {
      int end = part.indexOf('\n');
      if (end < 0) continue;
      String name = part.substring(0, end).replaceAll(":.*", "").trim();
      SECTIONS.put(name, wordsOf(part.substring(end)));
    }
    return SECTIONS;
  }

  /** A section without its signs of layout, the calls' headings and what the interface says. */
  private static String wordsOf(String part) {
    return part.replaceAll("(?m)^```.*$", " ").replaceAll("(?m)^Ahead of the calls.*$", " ")
        .replaceAll("(?m)^======== \\d", " ").replaceAll("(?m)^`[^`]*`:", " ").replaceAll("\\s+", " ").trim();
  }
}

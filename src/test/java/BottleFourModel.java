import java.util.ArrayList;
import java.util.Arrays;
import java.util.HashSet;
import java.util.List;
import java.util.Random;
import java.util.Set;
import java.util.regex.Matcher;
import java.util.regex.Pattern;

/**
 * Runs of calls by fixed seeds on BottleFour and on a second program, written from the document
 * alone in another way (objects, lists, recursion); every answer must be the same.
 */
public final class BottleFourModel {
  static final int BAD = -1, STATE = -2, FULL = -3, NONE = -4;

  static final class Person {
    int kind, size, level;
    Person(int kind, int size, int level) { this.kind = kind; this.size = size; this.level = level; }
    Person copy() { return new Person(kind, size, level); }
    boolean up() { return level > 0; }
  }

  static final class Well {
    int mile, odds, caps;
    boolean wet = true;
    Well(int mile, int odds, int caps) { this.mile = mile; this.odds = odds; this.caps = caps; }
    Well copy() { Well w = new Well(mile, odds, caps); w.wet = wet; return w; }
  }

  static final class Desert {
    List<Person> people = new ArrayList<>();
    List<Well> wells = new ArrayList<>();
    int bottle = 0, goal = 20, mile = 0, hour = 18, plan = 0, cloths = 0, found = 0;

    Desert copy() {
      Desert d = new Desert();
      for (Person p : people) d.people.add(p.copy());
      for (Well w : wells) d.wells.add(w.copy());
      d.bottle = bottle; d.goal = goal; d.mile = mile; d.hour = hour; d.plan = plan;
      d.cloths = cloths; d.found = found;
      return d;
    }

    long up() { return people.stream().filter(Person::up).count(); }
    boolean day() { int h = Math.floorMod(hour, 24); return 6 <= h && h < 18; }
    Person pourer() { return people.get(hour % people.size()); }

    int wants(Person p) {
      if (!p.up()) return 0;
      if (p.kind == 1) return p.level < 10 ? 10 - p.level : 0;
      if (p.kind == 2) return p == pourer() ? 1 + 1 : 1;
      if (p.kind == 3) return p.level > 4 ? 0 : 2;
      return 1;
    }

    Person receiver(Person giver) {
      if (giver.kind != 4) return giver;
      Person lowest = null;
      for (Person q : people) {
        if (q == giver || !q.up() || q.level >= giver.level) continue;
        if (lowest == null || q.level < lowest.level) lowest = q;
      }
      return lowest == null ? giver : lowest;
    }

    int loses(Person p, boolean walk) {
      if (!p.up()) return 0;
      int n = 0;
      if (day()) n += 1;
      if (walk) n += 1;
      if (p.size == 2 && hour % 2 == 0) n += 1;
      if (p.size == 3) n += 1;
      return n;
    }

    static boolean walks(int plan, boolean day) {
      return plan == 2 || plan == 0 && !day || plan == 1 && day;
    }

    void hour(int byPlan) { hour(walks(byPlan, day())); }

    void hour(boolean walk) {
      if (mile >= goal || up() == 0) { hour++; return; }
      if (hour % 24 == 4) bottle = Math.min(60, bottle + cloths);
      List<Person> round = new ArrayList<>();
      int first = hour % people.size();
      for (int i = first + 1; i < people.size(); i++) round.add(people.get(i));
      for (int i = 0; i <= first; i++) round.add(people.get(i));
      for (Person p : round) {
        if (!p.up()) continue;
        Person to = receiver(p);
        int n = wants(p);
        while (n > 0 && bottle > 0 && to.level < 20) { n--; bottle--; to.level++; }
      }
      for (Person p : people) p.level = Math.max(p.level - loses(p, walk), 0);
      if (walk && up() > 0) {
        int was = mile;
        mile += day() ? 2 : 3;
        if (people.stream().anyMatch(p -> p.up() && p.level <= 5)) mile--;
        for (Well w : wells) {
          if (w.wet && was < w.mile && w.mile <= mile) {
            w.wet = false;
            bottle = Math.min(60, bottle + w.caps);
          }
        }
      }
      hour++;
    }

    /** Hours, how many arrive; hours -1: GOAL is not come to. */
    int[] arriving(int byPlan) {
      Desert d = copy();
      for (int h = 0; h <= 96; h++) {
        if (d.mile >= d.goal) return new int[] {h, (int) d.up()};
        d.hour(byPlan);
      }
      return new int[] {-1, 0};
    }

    int drink(int p, int caps) {
      if (p < 0 || p >= people.size() || caps < 0 || caps > 20) return BAD;
      Person q = people.get(p);
      if (!q.up() || caps > bottle) return STATE;
      if (q.level + caps > 20) return FULL;
      bottle -= caps;
      return q.level += caps;
    }
  }

  static final class Refused extends RuntimeException {
    final int fault, place;
    Refused(int fault, int place) { this.fault = fault; this.place = place; }
  }

  static final class Parser {
    static final Pattern TOKEN = Pattern.compile("[a-z]+|[0-9]+|;");
    static final List<String> KINDS = List.of("measured", "thirsty", "sly", "last", "giver");
    static final List<String> PLANS = List.of("night", "day", "all", "stay");
    final String tape;
    int at = 0, place = 0, lines = 0;
    final Desert d = new Desert();
    Parser(String tape) { this.tape = tape; }

    String token() {
      while (at < tape.length() && tape.charAt(at) == ' ') at++;
      place = at;
      if (at == tape.length()) return "";
      Matcher m = TOKEN.matcher(tape).region(at, tape.length());
      if (!m.lookingAt()) throw new Refused(1, at);
      String t = m.group();
      if (Character.isDigit(t.charAt(0)) && t.length() > 2) throw new Refused(1, at);
      at = m.end();
      return t;
    }

    int number(int low, int high) {
      String t = token();
      if (t.isEmpty() || !Character.isDigit(t.charAt(0))) throw new Refused(2, place);
      int v = Integer.parseInt(t);
      if (v < low || v > high) throw new Refused(3, place);
      return v;
    }

    int of(List<String> names) {
      int i = names.indexOf(token());
      if (i < 0) throw new Refused(2, place);
      return i;
    }

    Desert parse() {
      Set<String> told = new HashSet<>();
      Set<Integer> dry = new HashSet<>();
      for (String t = token(); !t.isEmpty(); t = token()) {
        if (List.of("bottle", "goal", "plan", "dew", "found").contains(t) && !told.add(t)) {
          throw new Refused(4, place);
        }
        if (t.equals("one") && d.people.size() == 4 || t.equals("well") && d.wells.size() == 3) {
          throw new Refused(5, place);
        }
        if (t.equals("one")) {
          int kind = of(KINDS), size = number(1, 3), level = number(0, 20);
          d.people.add(new Person(kind, size, level));
        } else if (t.equals("well")) {
          int mile = number(1, 60), odds = number(0, 10), caps = number(1, 20);
          d.wells.add(new Well(mile, odds, caps));
        } else if (t.equals("bottle")) {
          d.bottle = number(0, 60);
        } else if (t.equals("goal")) {
          d.goal = number(0, 60);
          d.hour = number(0, 23);
        } else if (t.equals("plan")) {
          d.plan = of(PLANS);
        } else if (t.equals("dew")) {
          d.cloths = number(0, 9);
        } else if (t.equals("found")) {
          d.found = number(0, 10);
        } else if (t.equals("dry")) {
          if (!dry.add(number(0, 2))) throw new Refused(4, place);
        } else {
          throw new Refused(2, place);
        }
        if (!token().equals(";")) throw new Refused(2, place);
        lines++;
      }
      for (int i : dry) {
        if (i >= d.wells.size()) throw new Refused(6, tape.length());
        d.wells.get(i).wet = false;
      }
      return d;
    }
  }

  static final class Model {
    Desert d = new Desert();
    String tape = "";
    int fault = 0, torn = 0;
    Desert[] images = new Desert[2];
    List<int[]> seen = new ArrayList<>();
    Object[] sheets = new Object[4];

    static boolean in(int v, int low, int high) { return low <= v && v <= high; }
    boolean person(int p) { return in(p, 0, d.people.size() - 1); }
    boolean isWell(int i) { return in(i, 0, d.wells.size() - 1); }

    int text() {
      String was = tape;
      tape = "";
      Parser parser = new Parser(was);
      try {
        d = parser.parse();
      } catch (Refused r) {
        fault = r.fault;
        return -10 - r.place;
      }
      fault = 0;
      seen.clear();
      images = new Desert[2];
      return parser.lines;
    }

    int tell(Desert e, int what) {
      return what == 0 ? e.mile : what == 1 ? e.bottle : what == 2 ? (int) e.up()
          : e.people.get(what - 10).level;
    }

    int best(int what) {
      List<int[]> all = new ArrayList<>();
      for (int plan = 0; plan < 3; plan++) {
        int[] a = d.arriving(plan);
        all.add(new int[] {-a[1], a[1] == 0 ? 0 : a[0], plan});
      }
      all.sort(Arrays::compare);
      return what == 0 ? all.get(0)[2] : -all.get(0)[0];
    }

    int late(int k) {
      for (int h = 72; h >= 0; h--) {
        Desert e = d.copy();
        for (int i = 0; i < h; i++) e.hour(3);
        if (e.arriving(2)[1] >= k) return h;
      }
      return NONE;
    }

    int least() {
      for (int v = 0; v <= 60; v++) {
        Desert e = d.copy();
        e.bottle = v;
        int[] a = e.arriving(d.plan);
        if (a[0] >= 0 && a[1] == d.up()) return v;
      }
      return NONE;
    }

    /** Sums weight times what is asked over the wells from i on. */
    long weigh(Desert e, int i, int plan, int k, long weight) {
      if (i == e.wells.size()) {
        int n = e.arriving(plan)[1];
        return weight * (k == 0 ? n : n >= k ? 1 : 0);
      }
      Well w = e.wells.get(i);
      if (!w.wet) return weigh(e, i + 1, plan, k, weight * 10);
      long sum = weigh(e, i + 1, plan, k, weight * w.odds);
      Desert dry = e.copy();
      dry.wells.get(i).wet = false;
      return sum + weigh(dry, i + 1, plan, k, weight * (10 - w.odds));
    }

    static long part(long a, long b, int what) {
      for (long q = b; q > 1; q--) {
        if (a % q == 0 && b % q == 0) { a /= q; b /= q; }
      }
      return what == 0 ? a : b;
    }

    long weighed(int plan, int k, int what) {
      long all = 1;
      for (int i = 0; i < d.wells.size(); i++) all *= 10;
      return part(weigh(d, 0, plan, k, 1), all, what);
    }

    long stay(int n, int what) {
      Desert e = d.copy();
      long not = 1, all = 1;
      for (int i = 0; i < n; i++) {
        if (e.hour % 24 == 12 && e.up() > 0) { not *= 10 - d.found; all *= 10; }
        e.hour(3);
      }
      return part(all - not, all, what);
    }

    void fitting(Desert e, int p, int code, List<Integer> out) {
      if (p == e.people.size()) {
        for (int[] s : seen) {
          Desert f = e.copy();
          for (int i = 0; i < s[0]; i++) f.hour(d.plan);
          if (f.bottle != s[1]) return;
        }
        out.add(code);
        return;
      }
      for (int kind = 0; kind < 5; kind++) {
        Desert f = e.copy();
        f.people.get(p).kind = kind;
        fitting(f, p + 1, code * 5 + kind, out);
      }
    }

    List<Integer> fitting() {
      List<Integer> out = new ArrayList<>();
      fitting(d, 0, 0, out);
      return out;
    }

    int kinds(int p) {
      int bits = 0;
      for (int code : fitting()) {
        for (int q = d.people.size() - 1; q > p; q--) code /= 5;
        bits |= 1 << code % 5;
      }
      return bits;
    }

    int drift(int seed, int n, int what) {
      Desert e = d.copy();
      for (int i = 0; i < n; i++) {
        seed = (int) ((seed * 1103515245L + 12345L) & 0xffffffffL);
        e.hour(((seed & 0x7fff0000) >> 16) % 3 != 0);
      }
      return tell(e, what);
    }

    int sheet(int k, int lane, int n) {
      if (!in(k, 0, 3) || !in(lane, 0, 2) || n > 40) return BAD;
      try {
        sheets[k] = lane == 0 ? new byte[n] : lane == 1 ? new short[n] : new int[n];
      } catch (NegativeArraySizeException e) {
        return -14;
      }
      return 1;
    }

    int put(int k, int i, int v) {
      if (!in(k, 0, 3)) return BAD;
      try {
        if (sheets[k] instanceof byte[] b) b[i] = (byte) v;
        else if (sheets[k] instanceof short[] s) s[i] = (short) v;
        else ((int[]) sheets[k])[i] = v;
      } catch (NullPointerException e) {
        return -11;
      } catch (ArrayIndexOutOfBoundsException e) {
        return -12;
      }
      return 1;
    }

    static int cell(Object row, int lane, int i) {
      return lane == 0 ? ((byte[]) row)[i] : lane == 1 ? ((short[]) row)[i] : ((int[]) row)[i];
    }

    int read(int k, int lane, int f, int n) {
      if (!in(k, 0, 3) || !in(lane, 0, 2) || !in(n, 0, 20)) return BAD;
      Desert e = d.copy();
      int were = 0, met = 0;
      try {
        for (; were < n; were++) {
          int p = cell(sheets[k], lane, f + 2 * were), caps = cell(sheets[k], lane, f + 2 * were + 1);
          if (e.drink(p, caps) < 0) return -20 - were;
        }
      } catch (NullPointerException x) {
        met = 1;
      } catch (ArrayIndexOutOfBoundsException x) {
        met = 2;
      } catch (ClassCastException x) {
        met = 3;
      }
      torn = met;
      d = e;
      return were;
    }

    long rule(int what) {
      int[] all = {d.people.size(), d.wells.size(), d.goal, d.mile, d.hour, d.bottle, d.plan,
          d.cloths, d.found};
      return in(what, 0, 8) ? all[what] : BAD;
    }

    long one(int p, int what) {
      if (!person(p) || !in(what, 0, 3)) return BAD;
      Person q = d.people.get(p);
      return new int[] {q.kind, q.size, q.level, d.wants(q)}[what];
    }

    long well(int i, int what) {
      if (!isWell(i) || !in(what, 0, 3)) return BAD;
      Well w = d.wells.get(i);
      return new int[] {w.mile, w.odds, w.caps, w.wet ? 1 : 0}[what];
    }

    long count(int what) {
      switch (what) {
        case 0: return seen.size();
        case 1: return (images[0] == null ? 0 : 1) + (images[1] == null ? 0 : 1);
        case 2: return tape.length();
        case 3: return sheets[0] == null ? NONE : java.lang.reflect.Array.getLength(sheets[0]);
        case 4: return d.up();
        case 5: return d.people.stream().mapToInt(p -> p.level).sum();
        case 6: return d.wells.stream().filter(w -> w.wet).count();
        default: return BAD;
      }
    }

    long change(String name, int[] a) {
      int was;
      switch (name) {
        case "teach":
          if (!person(a[0]) || !in(a[1], 0, 4)) return BAD;
          was = d.people.get(a[0]).kind; d.people.get(a[0]).kind = a[1]; return was;
        case "drink": return d.drink(a[0], a[1]);
        case "fill":
          if (!in(a[0], 0, 60)) return BAD;
          was = d.bottle; d.bottle = a[0]; return was;
        case "plan":
          if (!in(a[0], 0, 3)) return BAD;
          was = d.plan; d.plan = a[0]; return was;
        case "wet":
          if (!isWell(a[0])) return BAD;
          was = d.wells.get(a[0]).wet ? 1 : 0; d.wells.get(a[0]).wet = a[1] == 1; return was;
        case "odd":
          if (!isWell(a[0]) || !in(a[1], 0, 10)) return BAD;
          was = d.wells.get(a[0]).odds; d.wells.get(a[0]).odds = a[1]; return was;
        case "lay":
          if (!in(a[0], 0, 1) || !in(a[1], 0, a[0] == 0 ? 9 : 10)) return BAD;
          if (a[0] == 0) { was = d.cloths; d.cloths = a[1]; } else { was = d.found; d.found = a[1]; }
          return was;
        case "go":
          if (!in(a[0], 0, 60)) return BAD;
          if (d.hour + a[0] > 999) return FULL;
          for (int i = 0; i < a[0]; i++) d.hour(d.plan);
          return d.up();
        default: throw new IllegalStateException(name);
      }
    }

    long call(String name, int[] a) {
      switch (name) {
        case "feed":
          if (!in(a[0], 0, 127)) return BAD;
          if (tape.length() == 160) return FULL;
          tape += (char) a[0];
          return tape.length();
        case "end": {
          if (!in(a[0], 0, tape.length())) return BAD;
          int had = tape.length();
          tape = tape.substring(0, a[0]);
          return had;
        }
        case "text": return text();
        case "fault": return fault;
        case "rule": return rule(a[0]);
        case "one": return one(a[0], a[1]);
        case "well": return well(a[0], a[1]);
        case "pours": return d.people.isEmpty() ? NONE : d.people.indexOf(d.pourer());
        case "loses": return person(a[0]) ? d.loses(d.people.get(a[0]), a[1] == 1) : BAD;
        case "ahead": {
          if (!in(a[0], 0, 96) || !(in(a[1], 0, 2) || a[1] > 9 && person(a[1] - 10))) return BAD;
          Desert e = d.copy();
          for (int i = 0; i < a[0]; i++) e.hour(d.plan);
          return tell(e, a[1]);
        }
        case "down": {
          if (!person(a[0])) return BAD;
          Desert e = d.copy();
          for (int h = 0; h <= 96; h++, e.hour(d.plan)) if (!e.people.get(a[0]).up()) return h;
          return NONE;
        }
        case "arrive": {
          if (!in(a[0], 0, 3) || !in(a[1], 0, 1)) return BAD;
          int[] r = d.arriving(a[0]);
          return a[1] == 0 ? r[1] : r[1] == 0 ? NONE : r[0];
        }
        case "best": return in(a[0], 0, 1) ? best(a[0]) : BAD;
        case "late": return in(a[0], 1, 4) ? late(a[0]) : BAD;
        case "least": return least();
        case "alike": {
          if (!in(a[0], 0, 4)) return BAD;
          Desert e = d.copy();
          for (Person p : e.people) p.kind = a[0];
          return e.arriving(d.plan)[1];
        }
        case "alone": {
          if (!person(a[0]) || !in(a[1], 0, 20)) return BAD;
          if (!d.people.get(a[0]).up()) return STATE;
          Desert e = d.copy();
          Person p = e.people.get(a[0]);
          e.people = new ArrayList<>(List.of(p));
          e.bottle = a[1];
          int[] r = e.arriving(d.plan);
          return r[1] == 0 ? NONE : r[0];
        }
        case "luck":
          return in(a[0], 1, 4) && in(a[1], 0, 3) && in(a[2], 0, 1) ? weighed(a[1], a[0], a[2]) : BAD;
        case "mean": return in(a[0], 0, 3) && in(a[1], 0, 1) ? weighed(a[0], 0, a[1]) : BAD;
        case "stay": return in(a[0], 0, 96) && in(a[1], 0, 1) ? stay(a[0], a[1]) : BAD;
        case "see":
          if (!in(a[0], 1, 24) || !in(a[1], 0, 60)) return BAD;
          if (seen.size() == 6) return FULL;
          seen.add(a);
          return seen.size();
        case "forget": {
          if (!in(a[0], 0, seen.size())) return BAD;
          int were = seen.size();
          seen = new ArrayList<>(seen.subList(0, a[0]));
          return were;
        }
        case "fits": {
          if (!in(a[0], 0, 1)) return BAD;
          List<Integer> all = fitting();
          return a[0] == 0 ? all.size() : all.isEmpty() ? NONE : all.get(0);
        }
        case "kinds": return person(a[0]) ? kinds(a[0]) : BAD;
        case "drift": return in(a[1], 1, 60) && in(a[2], 0, 2) ? drift(a[0], a[1], a[2]) : BAD;
        case "keep": {
          if (!in(a[0], 0, 1)) return BAD;
          int was = images[a[0]] == null ? 0 : 1;
          images[a[0]] = d.copy();
          return was;
        }
        case "back":
          if (!in(a[0], 0, 1)) return BAD;
          if (images[a[0]] == null) return STATE;
          d = images[a[0]].copy();
          return d.hour;
        case "sheet": return sheet(a[0], a[1], a[2]);
        case "put": return put(a[0], a[1], a[2]);
        case "read": return read(a[0], a[1], a[2], a[3]);
        case "torn": return torn;
        case "count": return count(a[0]);
        default: return change(name, a);
      }
    }
  }

  static long ask(BottleFour x, String name, int[] a) {
    switch (name) {
      case "feed": return x.feed(a[0]);
      case "end": return x.end(a[0]);
      case "text": return x.text();
      case "fault": return x.fault();
      case "rule": return x.rule(a[0]);
      case "one": return x.one(a[0], a[1]);
      case "well": return x.well(a[0], a[1]);
      case "pours": return x.pours();
      case "loses": return x.loses(a[0], a[1] == 1);
      case "teach": return x.teach(a[0], a[1]);
      case "drink": return x.drink(a[0], a[1]);
      case "fill": return x.fill(a[0]);
      case "plan": return x.plan(a[0]);
      case "wet": return x.wet(a[0], a[1] == 1);
      case "odd": return x.odd(a[0], a[1]);
      case "lay": return x.lay(a[0], a[1]);
      case "go": return x.go(a[0]);
      case "ahead": return x.ahead(a[0], a[1]);
      case "down": return x.down(a[0]);
      case "arrive": return x.arrive(a[0], a[1]);
      case "best": return x.best(a[0]);
      case "late": return x.late(a[0]);
      case "least": return x.least();
      case "alike": return x.alike(a[0]);
      case "alone": return x.alone(a[0], a[1]);
      case "luck": return x.luck(a[0], a[1], a[2]);
      case "mean": return x.mean(a[0], a[1]);
      case "stay": return x.stay(a[0], a[1]);
      case "see": return x.see(a[0], a[1]);
      case "forget": return x.forget(a[0]);
      case "fits": return x.fits(a[0]);
      case "kinds": return x.kinds(a[0]);
      case "drift": return x.drift(a[0], a[1], a[2]);
      case "keep": return x.keep(a[0]);
      case "back": return x.back(a[0]);
      case "sheet": return x.sheet(a[0], a[1], a[2]);
      case "put": return x.put(a[0], a[1], a[2]);
      case "read": return x.read(a[0], a[1], a[2], a[3]);
      case "torn": return x.torn();
      case "count": return x.count(a[0]);
      default: throw new IllegalStateException(name);
    }
  }

  /** A call's name, then the bounds that its arguments are mostly in. */
  static final String[] CALLS = {
    "end 0 160", "text", "fault", "rule 0 8", "one 0 3 0 3", "well 0 2 0 3", "pours", "loses 0 3 0 1",
    "teach 0 3 0 4", "drink 0 3 0 20", "fill 0 60", "plan 0 3", "wet 0 2 0 1", "odd 0 2 0 10",
    "lay 0 1 0 10", "go 0 60", "ahead 0 96 0 2", "ahead 0 96 10 13", "down 0 3", "arrive 0 3 0 1",
    "best 0 1", "late 1 4", "least", "alike 0 4", "alone 0 3 0 20", "luck 1 4 0 3 0 1", "mean 0 3 0 1",
    "stay 0 96 0 1", "see 1 24 0 60", "forget 0 6", "fits 0 1", "kinds 0 3", "drift s s 1 60 0 2",
    "keep 0 1", "back 0 1", "sheet 0 3 0 2 0 40", "put 0 3 0 39 0 3", "read 0 3 0 2 0 39 0 20", "torn",
    "count 0 6"};

  static final int[] FAR = {Integer.MIN_VALUE, Integer.MAX_VALUE, -2, 100, 300, 70000};
  static final String[] WORDS = {"one", "well", "dry", "bottle", "goal", "plan", "dew", "found", "sly",
      "last", "giver", "all", "day", ";", ";", "0", "1", "2", "60", "61", "99", "123", "x", "A", "#", "-", ""};

  final Random dice;
  final Model model = new Model();
  final BottleFour x = new BottleFour();
  final StringBuilder log = new StringBuilder();
  int calls = 0;

  BottleFourModel(long seed) { dice = new Random(seed); }

  int from(int low, int high) { return low + dice.nextInt(high - low + 1); }

  String line() {
    switch (dice.nextInt(8)) {
      case 0: return "bottle " + from(0, 60) + ";";
      case 1: return "goal " + from(0, 60) + " " + from(0, 23) + ";";
      case 2: return "plan " + Parser.PLANS.get(dice.nextInt(4)) + ";";
      case 3: return "well " + from(1, 40) + " " + from(0, 10) + " " + from(1, 20) + ";";
      case 4: return "dew " + from(0, 9) + ";";
      case 5: return "found " + from(0, 10) + ";";
      case 6: return "dry " + from(0, 2) + ";";
      default: return person();
    }
  }

  String person() {
    return "one " + Parser.KINDS.get(dice.nextInt(5)) + " " + from(1, 3) + " " + from(0, 20) + ";";
  }

  String tapeText() {
    StringBuilder s = new StringBuilder();
    int people = from(0, 4);
    for (int i = 0; i < people; i++) s.append(person());
    if (dice.nextInt(4) > 0) s.append("bottle ").append(from(0, 60)).append(';');
    if (dice.nextInt(4) > 0) s.append("goal ").append(from(5, 60)).append(' ').append(from(0, 23)).append(';');
    int more = from(0, 4);
    for (int i = 0; i < more; i++) s.append(line());
    int spoilt = dice.nextInt(3) == 0 ? from(1, 2) : 0;
    for (int i = 0; i < spoilt; i++) {
      int at = from(0, s.length()), to = Math.min(s.length(), at + from(0, 3));
      s.replace(at, to, (dice.nextBoolean() ? " " : "") + WORDS[dice.nextInt(WORDS.length)]);
    }
    return s.length() > 160 ? s.substring(0, 160) : s.toString();
  }

  boolean same(String name, int... a) {
    // What an object answers behind its 512th call is free.
    if (++calls > 512) return true;
    log.append(name).append(Arrays.toString(a));
    long due = model.call(name, a), got = ask(x, name, a);
    log.append(" = ").append(got).append('\n');
    if (due == got) return true;
    System.out.println(log + "  .. but the model answers " + due);
    return false;
  }

  int argument(String low, String high) {
    if (low.equals("s")) return dice.nextInt();
    int l = Integer.parseInt(low), h = Integer.parseInt(high);
    int way = dice.nextInt(40);
    if (way == 0) return FAR[dice.nextInt(FAR.length)];
    if (way == 1) return l - 1;
    if (way == 2) return h + 1;
    return dice.nextInt(3) == 0 ? from(l, Math.min(h, l + 4)) : from(l, h);
  }

  boolean feedAll(String s) {
    for (char c : s.toCharArray()) if (!same("feed", c)) return false;
    return same("text") && same("fault");
  }

  /** What was seen so that it often fits: what the kinds of now would leave. */
  boolean seeTrue() {
    int n = from(1, 24);
    return same("see", n, (int) model.call("ahead", new int[] {n, 1}));
  }

  boolean randomCall() {
    int way = dice.nextInt(60);
    if (way == 0) return feedAll(tapeText());
    if (way == 1) return same("feed", from(-2, 129));
    if (way < 5) return seeTrue();
    if (way == 5) return same("put", from(0, 3), from(0, 20), dice.nextInt());
    if (way < 9) return pairOf(from(0, 3), from(0, 6));
    String[] call = CALLS[dice.nextInt(CALLS.length)].split(" ");
    int[] a = new int[call.length / 2];
    for (int i = 0; i < a.length; i++) a[i] = argument(call[1 + 2 * i], call[2 + 2 * i]);
    return same(call[0], a);
  }

  boolean pairOf(int k, int pair) {
    return same("put", k, 2 * pair, from(0, 3)) && same("put", k, 2 * pair + 1, from(0, 3))
        && same("read", k, from(0, 2), 2 * from(0, pair), from(0, 4)) && same("torn");
  }

  boolean run() {
    if (!feedAll(tapeText())) return false;
    for (int i = 0; i < 150; i++) if (!randomCall()) return false;
    for (int what = 0; what <= 8; what++) if (!same("rule", what)) return false;
    for (int what = 0; what <= 6; what++) if (!same("count", what)) return false;
    for (int p = 0; p < 4; p++) if (!same("one", p, 2) || !same("well", p, 3)) return false;
    return true;
  }

  public static void main(String[] args) {
    int runs = args.length > 0 ? Integer.parseInt(args[0]) : 400;
    for (int seed = 1; seed <= runs; seed++) {
      if (!new BottleFourModel(seed).run()) {
        System.out.println("seed " + seed + " differs");
        System.exit(1);
      }
    }
    System.out.println(runs + " runs are as the model's");
  }
}

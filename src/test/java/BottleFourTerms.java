/**
 * The boundaries that "Terms" names: a sentence of the document, then what it asks for. Sentences are
 * the document's own words; the last test finds words of "Terms" that no sentence here has.
 */
public final class BottleFourTerms extends Checks {
  private static final String[] KIND_NAMES = {"measured", "thirsty", "sly", "last", "giver"};
  private static final String[] PLAN_NAMES = {"night", "day", "all", "stay"};
  private static final String ONE = "one sly 1 1;";
  private static final String WELL = "well 1 1 1;";
  private static final String AT_FIRST = "rules 0 0 20 0 18 0 0 0 0";

  private static void terms(String words) {
    sentence("Terms", words);
  }

  /** The text is taken, and a call shows then what it told. */
  private static void tells(String text, Call shows, long want) {
    due("what is told by '" + text + "'", shows.on(of(text)), want);
  }

  private static BottleFour after(int hours, String text) {
    BottleFour x = of(text);
    x.go(hours);
    return x;
  }

  private static void calls512() {
    sentence("What it is", "An object is used for at most 512 calls after it has been made;");
    BottleFour x = new BottleFour();
    for (int i = 1; i <= 255; i++) {
      due("call " + (2 * i - 1), x.feed('a'), 1);
      due("call " + 2 * i, x.end(0), 1);
    }
    due("call 511", x.fill(7), 0);
    due("call 512", x.rule(5), 7);
  }

  // ---- answers

  private static void answers() {
    terms("Answers: BAD -1 (a number is not as told, there is no such ONE, WELL, IMAGE, SHEET),");
    due("BAD", BottleFour.BAD, -1);
    noSuchOne(new BottleFour(), 0);
    noSuchOne(of(ONE), 1);
    noSuchOne(of(ONE + ONE + ONE + ONE), 4);
    noSuchOne(of(ONE + ONE + ONE + ONE), -1);
    noSuchWell(new BottleFour(), 0);
    noSuchWell(of(WELL), 1);
    noSuchWell(of(WELL + WELL + WELL), 3);
    noSuchWell(of(WELL + WELL + WELL), -1);
    for (int k : new int[] {-1, 2, MIN, MAX}) {
      due("keep " + k, new BottleFour().keep(k), BAD);
      due("back " + k, new BottleFour().back(k), BAD);
    }
    for (int k : new int[] {-1, 4, MIN, MAX}) {
      due("sheet " + k, new BottleFour().sheet(k, 0, 0), BAD);
      due("put " + k, new BottleFour().put(k, 0, 0), BAD);
      due("read " + k, new BottleFour().read(k, 0, 0, 0), BAD);
    }
    terms("STATE -2 (as told),");
    due("STATE", BottleFour.STATE, -2);
    due("a drink of who is DOWN", of("one sly 1 0;").drink(0, 0), -2);
    due("no IMAGE", new BottleFour().back(0), -2);
    due("alone, who is DOWN", of("one sly 1 0;").alone(0, 0), -2);
    terms("FULL -3,");
    due("FULL", BottleFour.FULL, -3);
    due("a drink above 20", of("one sly 1 20;bottle 1;").drink(0, 1), -3);
    terms("NONE -4 (there is none),");
    due("NONE", BottleFour.NONE, -4);
    due("nobody POURS", new BottleFour().pours(), -4);
    due("SHEET 0 is nothing", new BottleFour().count(3), -4);
  }

  private static void noSuchOne(BottleFour x, int p) {
    due("one " + p, x.one(p, 0), BAD);
    due("loses " + p, x.loses(p, true), BAD);
    due("teach " + p, x.teach(p, 0), BAD);
    due("drink " + p, x.drink(p, 0), BAD);
    due("ahead 10 and " + p, x.ahead(0, 10 + p), BAD);
    due("down " + p, x.down(p), BAD);
    due("alone " + p, x.alone(p, 0), BAD);
    due("kinds " + p, x.kinds(p), BAD);
  }

  private static void noSuchWell(BottleFour x, int i) {
    due("well " + i, x.well(i, 0), BAD);
    due("wet " + i, x.wet(i, true), BAD);
    due("odd " + i, x.odd(i, 0), BAD);
  }

  private static void theFirstThatFits() {
    terms("the first that fits;");
    BottleFour x = new BottleFour();
    for (int i = 0; i < 160; i++) x.feed(' ');
    due("feed: BAD, then FULL", x.feed(128), BAD);
    x = of("one sly 1 0;one sly 1 15;bottle 3;");
    due("drink: BAD, then STATE (DOWN)", x.drink(0, 21), BAD);
    due("drink: BAD, then STATE (the bottle), FULL", x.drink(1, 21), BAD);
    due("drink: STATE, then FULL", x.drink(1, 6), STATE);
    due("alone: BAD, then STATE", x.alone(0, 21), BAD);
    due("alone: STATE, then NONE", x.alone(0, 0), STATE);
    due("alone: BAD, then NONE", of("one sly 1 1;plan stay;").alone(0, 21), BAD);
    x = new BottleFour();
    for (int i = 0; i < 16; i++) x.go(60);
    due("go: BAD, then FULL", x.go(61), BAD);
    due("down: BAD, then NONE", of(ONE + "goal 0 0;").down(1), BAD);
    due("arrive: BAD (PLAN), then NONE", new BottleFour().arrive(4, 1), BAD);
    due("arrive: BAD (what), then NONE", new BottleFour().arrive(0, 2), BAD);
    due("late: BAD, then NONE", new BottleFour().late(5), BAD);
    x = new BottleFour();
    for (int i = 0; i < 6; i++) x.see(1, 60);
    due("see: BAD (HOURS), then FULL", x.see(25, 0), BAD);
    due("see: BAD (CAPS), then FULL", x.see(1, 61), BAD);
    due("fits: BAD, then NONE", x.fits(2), BAD);
    due("back: BAD, then STATE", x.back(2), BAD);
    due("sheet: BAD (SHEET), then SIZE", x.sheet(4, 0, -1), BAD);
    due("sheet: BAD (lane), then SIZE", x.sheet(0, 3, -1), BAD);
    due("put: BAD, then INDEX", x.put(4, -1, 0), BAD);
    due("put: NULL, then INDEX", x.put(0, -1, 0), -11);
    due("read: BAD, then NULL", x.read(0, 3, 0, 1), BAD);
  }

  private static void whatIsRefused() {
    // What each call that can be refused leaves is tested with its promise, in BottleFourEdges.
    terms("what is refused changes nothing (but THE TAPE, as told).");
    BottleFour x = rich();
    String before = camp(x);
    due("a text that is refused", tell(x, "bottle 9;"), -10 - 15);
    due("THE TAPE then", x.count(2), 0);
    same("a text that is refused", camp(x), before);
    due("SEEN still", x.count(0), 2);
    due("IMAGES still", x.count(1), 2);
    due("torn still", x.torn(), 1);
    due("SHEET 0 still", x.count(3), 4);
    due("SHEET 0's drink still", x.read(0, 0, 2, 1), 1);
    String[] faulty = {"one sly 1 9;#", "bottle 9;x", "goal 9 9;goal 9 24;", "dew 9;dew 9;", "found 9;dry 0;",
        WELL + WELL + WELL + WELL, "plan all;dry 2;"};
    for (String text : faulty) refusedText(text);
    asksBehindARefusedText();
  }

  /** Whatever a refused text told ahead of its FAULT, the next call shows nothing of it. */
  private static void asksBehindARefusedText() {
    String told = "one measured 1 2;one last 1 20;well 2 10 20;well 1 3 9;goal 20 18;bottle 3;found 3;";
    Call[] asks = {x -> x.one(1, 3), x -> x.loses(1, true), BottleFour::pours, x -> x.go(5), x -> x.ahead(9, 1),
        x -> x.ahead(9, 11), x -> x.down(0), x -> x.arrive(0, 1), x -> x.best(1), x -> x.late(1), BottleFour::least,
        x -> x.alike(1), x -> x.alone(1, 4), x -> x.luck(2, 0, 0), x -> x.luck(2, 0, 1), x -> x.mean(0, 0),
        x -> x.mean(0, 1), x -> x.stay(40, 0), x -> x.fits(0), x -> x.fits(1), x -> x.kinds(0), x -> x.kinds(1),
        x -> x.drift(1, 9, 1), x -> x.drink(0, 3), x -> x.keep(0), x -> x.count(5), x -> x.count(6)};
    String[] refused = {"#", "one giver 3 9;one sly 2 0;one last 1 1;well 9 9 9;plan stay;found 9;dew 9;bottle 60;goal 0 23"};
    for (int i = 0; i < asks.length; i++) {
      long want = asks[i].on(of(told));
      for (String text : refused) {
        BottleFour x = of(told);
        tell(x, text);
        due("ask " + i + " behind the refused text '" + text + "'", asks[i].on(x), want);
      }
    }
  }

  private static void refusedText(String text) {
    BottleFour x = rich();
    BottleFour y = rich();
    x.end(0);
    y.end(0);
    tell(x, text);
    tell(y, "bottle");
    String got = probe(x);
    String want = probe(y);
    same("the text '" + text + "'", got.substring(1), want.substring(1));
  }

  private static void fractions() {
    terms("Fractions are in lowest terms, the denominator above 0 (0 is 0 by 1).");
    // By night both are down behind 2 hours, but for the well; with it they drink what they lose.
    BottleFour x = of("one measured 1 2;one measured 1 2;well 2 4 20;goal 20 18;");
    fraction("luck of 4 tenths", x.luck(2, 0, 0), x.luck(2, 0, 1), 2, 5);
    fraction("mean of 8 tenths", x.mean(0, 0), x.mean(0, 1), 4, 5);
    fraction("luck of nothing", x.luck(3, 0, 0), x.luck(3, 0, 1), 0, 1);
    fraction("mean of nothing", x.mean(3, 0), x.mean(3, 1), 0, 1);
    x.odd(0, 10);
    fraction("luck of all", x.luck(1, 0, 0), x.luck(1, 0, 1), 1, 1);
    fraction("mean of all", x.mean(0, 0), x.mean(0, 1), 2, 1);
    x.odd(0, 3);
    fraction("luck that is lowest", x.luck(1, 0, 0), x.luck(1, 0, 1), 3, 10);
    x = of("one last 1 20;goal 20 12;found 5;");
    fraction("stay of 5 tenths", x.stay(24, 0), x.stay(24, 1), 1, 2);
    fraction("stay of no chance", x.stay(0, 0), x.stay(0, 1), 0, 1);
    x.lay(1, 0);
    fraction("stay, never found", x.stay(24, 0), x.stay(24, 1), 0, 1);
    x.lay(1, 10);
    fraction("stay, found for sure", x.stay(24, 0), x.stay(24, 1), 1, 1);
    x.lay(1, 3);
    fraction("stay that is lowest", x.stay(24, 0), x.stay(24, 1), 3, 10);
    x = new BottleFour();
    fraction("nobody's luck", x.luck(1, 0, 0), x.luck(1, 0, 1), 0, 1);
    fraction("nobody's mean", x.mean(0, 0), x.mean(0, 1), 0, 1);
    fraction("nobody's stay", x.stay(96, 0), x.stay(96, 1), 0, 1);
  }

  // ---- 1: what there is

  private static void people() {
    terms("PEOPLE (4 at most), by order, each a ONE of a KIND,");
    tells("", x -> x.rule(0), 0);
    tells(ONE + ONE + ONE + ONE, x -> x.rule(0), 4);
    faulty(ONE + ONE + ONE + ONE + ONE, 5, 48);
    BottleFour x = of("one giver 1 1;one last 1 2;one sly 1 3;one measured 1 4;");
    int[] kinds = {4, 3, 2, 0};
    for (int p = 0; p < 4; p++) {
      due("KIND of " + p, x.one(p, 0), kinds[p]);
      due("LEVEL of " + p, x.one(p, 2), p + 1);
    }
    terms("of a SIZE (1 to 3),");
    faulty("one sly 0 1;", 3, 8);
    tells("one sly 1 1;", y -> y.one(0, 1), 1);
    tells("one sly 3 1;", y -> y.one(0, 1), 3);
    faulty("one sly 4 1;", 3, 8);
    terms("with a LEVEL (0 to 20; 0: he is DOWN).");
    tells("one sly 1 0;", y -> y.one(0, 2), 0);
    tells("one sly 1 0;", y -> y.count(4), 0);
    tells("one sly 1 0;", y -> y.down(0), 0);
    tells("one sly 1 1;", y -> y.count(4), 1);
    tells("one sly 1 20;", y -> y.one(0, 2), 20);
    faulty("one sly 1 21;", 3, 10);
    faulty("one sly 1 99;", 3, 10);
  }

  private static void theWay() {
    terms("THE BOTTLE has CAPS (0 to 60; 0 at first),");
    tells("", x -> x.rule(5), 0);
    tells("bottle 0;", x -> x.rule(5), 0);
    tells("bottle 60;", x -> x.rule(5), 60);
    faulty("bottle 61;", 3, 7);
    terms("GOAL is at a MILE (0 to 60; 20),");
    tells("", x -> x.rule(2), 20);
    tells("goal 0 0;", x -> x.rule(2), 0);
    tells("goal 60 0;", x -> x.rule(2), 60);
    faulty("goal 61 0;", 3, 5);
    terms("they are at MILE (0 at first),");
    due("MILE of a new object", new BottleFour().rule(3), 0);
    BottleFour x = after(1, "one last 1 9;");
    due("MILE behind an HOUR", x.rule(3), 3);
    x.text();
    due("MILE behind a text", x.rule(3), 0);
    terms("HOUR (0 to 23 told; 18 at first; it goes on: 24 is 0 of the next day).");
    tells("", y -> y.rule(4), 18);
    tells("goal 9 0;", y -> y.rule(4), 0);
    tells("goal 9 23;", y -> y.rule(4), 23);
    faulty("goal 9 24;", 3, 7);
    theHourGoesOn();
    terms("PLAN (0 night, 1 day, 2 all, 3 stay; 0).");
    tells("", y -> y.rule(6), 0);
    for (int k = 0; k < 4; k++) {
      int plan = k;
      tells("plan " + PLAN_NAMES[k] + ";", y -> y.rule(6), plan);
    }
    due("PLAN 4", x.plan(4), BAD);
  }

  private static void theHourGoesOn() {
    BottleFour x = of("one last 2 20;goal 60 23;plan stay;");
    x.go(1);
    due("HOUR behind 23", x.rule(4), 24);
    due("24 is NIGHT and even, as 0", x.loses(0, false), 1);
    x.go(1);
    due("HOUR behind 24", x.rule(4), 25);
    due("25 is NIGHT and odd, as 1", x.loses(0, false), 0);
    x.go(5);
    due("HOUR 30", x.rule(4), 30);
    due("30 is DAY and even, as 6", x.loses(0, false), 2);
    // He stays above 4 till the third day, so he drinks nothing.
    x = of("one last 1 20;dew 5;goal 60 23;plan stay;");
    due("ahead of 28", x.ahead(5, 1), 0);
    due("at 28 there is dew, as at 4", x.ahead(6, 1), 5);
    due("ahead of 52", x.ahead(29, 1), 5);
    due("at 52 there is dew again", x.ahead(30, 1), 10);
  }

  private static void clothsFoundWells() {
    terms("CLOTHS (0 to 9; 0).");
    tells("", x -> x.rule(7), 0);
    tells("dew 0;", x -> x.rule(7), 0);
    tells("dew 9;", x -> x.rule(7), 9);
    faulty("dew 10;", 3, 4);
    terms("FOUND (0 to 10 tenths; 0).");
    tells("", x -> x.rule(8), 0);
    tells("found 0;", x -> x.rule(8), 0);
    tells("found 10;", x -> x.rule(8), 10);
    faulty("found 11;", 3, 6);
    terms("WELLS (3 at most), by order,");
    tells("", x -> x.rule(1), 0);
    tells(WELL + WELL + WELL, x -> x.rule(1), 3);
    faulty(WELL + WELL + WELL + WELL, 5, 33);
    for (int i = 0; i < 3; i++) {
      int well = i;
      tells("well 9 1 1;well 7 1 1;well 8 1 1;", x -> x.well(well, 0), new int[] {9, 7, 8}[i]);
    }
    terms("each at a MILE (1 to 60),");
    faulty("well 0 1 1;", 3, 5);
    tells("well 1 2 3;", x -> x.well(0, 0), 1);
    tells("well 60 2 3;", x -> x.well(0, 0), 60);
    faulty("well 61 1 1;", 3, 5);
    terms("with ODDS (0 to 10 tenths),");
    tells("well 2 0 3;", x -> x.well(0, 1), 0);
    tells("well 2 10 3;", x -> x.well(0, 1), 10);
    faulty("well 1 11 1;", 3, 7);
    terms("CAPS (1 to 20),");
    faulty("well 1 1 0;", 3, 9);
    tells("well 2 3 1;", x -> x.well(0, 2), 1);
    tells("well 2 3 20;", x -> x.well(0, 2), 20);
    faulty("well 1 1 21;", 3, 9);
    terms("WET or not (at first WET).");
    tells(WELL + WELL + WELL, x -> x.count(6), 3);
    tells(WELL + WELL + "dry 0;", x -> x.well(0, 3) * 10 + x.well(1, 3), 1);
  }

  // ---- 1: kinds

  private static void wants(String kind, int level, int want) {
    tells("one " + kind + " 1 " + level + ";", x -> x.one(0, 3), want);
  }

  private static void kinds() {
    terms("KINDS, what a ONE wants in an HOUR: 0 measured: 1.");
    for (int level : new int[] {1, 10, 20}) wants("measured", level, 1);
    terms("1 thirsty: as much as brings LEVEL to 10, where it is less, else nothing.");
    wants("thirsty", 1, 9);
    wants("thirsty", 9, 1);
    wants("thirsty", 10, 0);
    wants("thirsty", 11, 0);
    wants("thirsty", 20, 0);
    terms("2 sly: as measured, and 1 more, if he pours.");
    String two = "one sly 1 1;one sly 1 20;";
    tells(two + "goal 9 0;", x -> x.one(0, 3) * 10 + x.one(1, 3), 21);
    tells(two + "goal 9 23;", x -> x.one(0, 3) * 10 + x.one(1, 3), 12);
    wants("sly", 5, 2);
    terms("3 last: 2, if LEVEL is 4 or less, else nothing.");
    wants("last", 1, 2);
    wants("last", 4, 2);
    wants("last", 5, 0);
    wants("last", 20, 0);
    terms("4 giver: 1 for the one of lowest LEVEL, lower than his, of those who are not DOWN, of several the first;"
        + " there is none: 1 for himself.");
    wants("giver", 1, 1);
    wants("giver", 20, 1);
    gives("5 5", "6 5", "none is lower than his: for himself");
    gives("6 5", "6 6", "lower by 1");
    gives("6 7", "7 7", "higher");
    gives("9 5 5", "9 6 5", "of several the first");
    gives("9 8 5", "9 8 6", "the lowest, not the first that is lower");
    gives("9 5 8", "9 6 8", "the lowest, not the last that is lower");
    gives("9 0 8", "9 0 9", "not who is DOWN");
    gives("9 0 9", "10 0 9", "lower is only who is DOWN: for himself");
    gives("5", "6", "alone");
    same("the first of all is given to, too", levels(after(1, "one last 1 5;one giver 1 9;bottle 9;plan stay;")),
        "levels 6 9");
    // At 19 of 2 it is ONE 1 who pours: he is the last, ONE 0 has drunk when he gives.
    BottleFour x = after(1, "one thirsty 1 4;one giver 1 6;bottle 9;goal 9 19;plan stay;");
    same("the LEVEL then, not that of the hour's beginning", levels(x), "levels 10 7");
  }

  /** The first is a giver, the others want nothing: their levels behind an hour that takes none. */
  private static void gives(String levels, String then, String why) {
    StringBuilder text = new StringBuilder();
    for (String level : levels.split(" ")) {
      text.append(text.length() == 0 ? "one giver 1 " : "one last 1 ").append(level).append(';');
    }
    BottleFour x = of(text + "bottle 9;plan stay;");
    x.go(1);
    same("a giver: " + why, levels(x), "levels " + then);
    due("THE BOTTLE: " + why, x.rule(5), 8);
  }

  // ---- 1: the tape

  private static void tape() {
    terms("THE TAPE has 160 bytes, places from 0.");
    BottleFour x = new BottleFour();
    for (int i = 1; i <= 160; i++) due("byte " + i, x.feed(i == 160 ? ';' : ' '), i);
    due("the 161st", x.feed(' '), FULL);
    due("a FAULT at the last place", x.text(), -10 - 159);
    faulty(";", 2, 0);
    faulty(" ".repeat(159) + "#", 1, 159);
    faulty(" ".repeat(154) + "bottle", 2, 160);
    taken(" ".repeat(150) + "bottle 10;", 1);
    terms("TOKENS, each as long as may be, blanks (32) between:");
    taken("bottle9;", 1);
    taken("one sly1 1;", 1);
    taken("one sly 1 1 ;  dew 3;", 2);
    taken("   bottle   9   ;   ", 1);
    faulty("onesly 1 1;", 2, 0);
    faulty("bot tle 9;", 2, 0);
    faulty("bottle 1 2;", 2, 9);
    faulty("bottle 1 ,", 1, 9);
    for (char c : new char[] {0, 9, 10, 13, 31, 33}) faulty("bottle" + c + "9;", 1, 6);
    terms("NAMES (a .. z),");
    for (char c : new char[] {'a', 'z'}) faulty("bottle " + c, 2, 7);
    for (char c : new char[] {'A', 'Z', 96, 123, 127}) faulty("bottle " + c, 1, 7);
    faulty("Bottle 9;", 1, 0);
    faulty("bottlE 9;", 2, 0);
    terms("NUMBERS (1 or 2 figures),");
    tells("bottle 0;", y -> y.rule(5), 0);
    tells("bottle 9;", y -> y.rule(5), 9);
    tells("bottle 00;", y -> y.rule(5), 0);
    tells("bottle 09;", y -> y.rule(5), 9);
    tells("bottle 50;", y -> y.rule(5), 50);
    faulty("bottle 009;", 1, 7);
    for (char c : new char[] {'0', '9'}) faulty("" + c, 2, 0);
    for (char c : new char[] {'/', ':'}) faulty("" + c, 1, 0);
    faulty("bottle -1;", 1, 7);
    faulty("bottle +1;", 1, 7);
    terms("one ; .");
    faulty("bottle 1;;", 2, 9);
    faulty("bottle 1 ; ;", 2, 11);
    faulty("bottle 1<", 1, 8);
  }

  private static void lines() {
    terms("text: { line }");
    for (String nothing : new String[] {"", " ", " ".repeat(160)}) {
      taken(nothing, 0);
      same("a text of no line", rules(of(nothing)), AT_FIRST);
    }
    taken("dew 1;", 1);
    taken("dry 0;dry 1;dry 2;" + WELL + WELL + WELL, 6);
    terms("line: one K N N ; | bottle N ; | goal N N ; | plan P ; | well N N N ; | dew N ; | found N ; | dry N ;");
    String[] lines = {"one sly 1 1 ;", "bottle 1 ;", "goal 1 1 ;", "plan all ;", "well 1 1 1 ;", "dew 1 ;",
        "found 1 ;"};
    for (String line : lines) lineIsWhole(line, "");
    lineIsWhole("dry 0 ;", WELL);
    terms("K: measured | thirsty | sly | last | giver");
    for (int k = 0; k < 5; k++) {
      int kind = k;
      String name = KIND_NAMES[k];
      tells("one " + name + " 1 1;", x -> x.one(0, 0), kind);
      faulty("one " + name + "s 1 1;", 2, 4);
      faulty("one " + name.substring(0, name.length() - 1) + " 1 1;", 2, 4);
      faulty("one x" + name.substring(1) + " 1 1;", 2, 4);
      faulty("plan " + name + ";", 2, 5);
      faulty(name + " 1 1;", 2, 0);
    }
    terms("P: night | day | all | stay");
    for (int k = 0; k < 4; k++) {
      int plan = k;
      String name = PLAN_NAMES[k];
      tells("plan " + name + ";", x -> x.rule(6), plan);
      faulty("plan " + name + "s;", 2, 5);
      faulty("plan " + name.substring(0, name.length() - 1) + ";", 2, 5);
      faulty("plan x" + name.substring(1) + ";", 2, 5);
      faulty("one " + name + " 1 1;", 2, 4);
    }
  }

  /** A line is taken as it is; each token that is left out, or comes twice, is a FAULT 2 of its place. */
  private static void lineIsWhole(String line, String ahead) {
    taken(ahead + line, ahead.isEmpty() ? 1 : 2);
    String[] tokens = line.split(" ");
    int place = ahead.length();
    for (int i = 0; i < tokens.length; i++) {
      String before = ahead + line.substring(0, place - ahead.length());
      String behind = line.substring(Math.min(line.length(), place - ahead.length() + tokens[i].length() + 1));
      boolean isNumber = Character.isDigit(tokens[i].charAt(0));
      boolean nextIsNumber = i + 1 < tokens.length && Character.isDigit(tokens[i + 1].charAt(0));
      if (i > 0) {
        faulty(before, 2, before.length());
        faulty(before + "x " + behind, 2, place);
        // Without a number the next one would stand for it.
        if (!isNumber || !nextIsNumber) faulty(before + behind, 2, place);
      }
      if (!isNumber) faulty(before + "1 " + tokens[i] + " " + behind, 2, place);
      if (i < tokens.length - 1) faulty(before + "; " + tokens[i] + " " + behind, 2, place);
      place += tokens[i].length() + 1;
    }
    faulty(ahead + line + ";", 2, ahead.length() + line.length());
  }

  private static void whatALineTells() {
    terms("one: a ONE more: KIND, SIZE, LEVEL.");
    BottleFour x = of("one thirsty 1 2;one giver 3 20;");
    due("people", x.rule(0), 2);
    int[] told = {4, 3, 20};
    for (int what = 0; what < 3; what++) due("the second's " + what, x.one(1, what), told[what]);
    terms("bottle: CAPS.");
    same("bottle", rules(of("bottle 60;")), "rules 0 0 20 0 18 60 0 0 0");
    terms("goal: its MILE, the HOUR.");
    same("goal", rules(of("goal 60 23;")), "rules 0 0 60 0 23 0 0 0 0");
    terms("well: a WELL more: MILE, ODDS, CAPS.");
    x = of("well 1 0 1;well 60 10 20;");
    due("wells", x.rule(1), 2);
    int[] ofWell = {60, 10, 20, 1};
    for (int what = 0; what < 4; what++) due("the second's " + what, x.well(1, what), ofWell[what]);
    terms("dew: CLOTHS.");
    same("dew", rules(of("dew 9;")), "rules 0 0 20 0 18 0 0 9 0");
    terms("found: FOUND.");
    same("found", rules(of("found 10;")), "rules 0 0 20 0 18 0 0 0 10");
    terms("dry: a WELL (0 to 2) that is not WET.");
    String three = WELL + WELL + WELL;
    for (int i = 0; i < 3; i++) {
      x = of(three + "dry " + i + ";");
      for (int j = 0; j < 3; j++) due("dry " + i + ", well " + j, x.well(j, 3), i == j ? 0 : 1);
    }
    tells("dry 0;" + WELL, y -> y.well(0, 3), 0);
    tells("dry 2;dry 0;dry 1;" + three, y -> y.count(6), 0);
    faulty(three + "dry 3;", 3, 37);
  }

  private static void faults() {
    terms("FAULTS, the first met as it is read (a TOKEN is read when the one before has been taken):");
    faulty("x #", 2, 0);
    faulty("; 123", 2, 0);
    faulty("bottle x #", 2, 7);
    faulty("bottle 61 #", 3, 7);
    faulty("bottle 61", 3, 7);
    faulty("bottle 61 123;", 3, 7);
    faulty("goal 61 24;", 3, 5);
    faulty("goal 60 24;", 3, 8);
    faulty("one sly 0 99 #", 3, 8);
    faulty("one sly 1 21 #", 3, 10);
    faulty("well 0 11 0;", 3, 5);
    faulty("well 1 11 0;", 3, 7);
    faulty("bottle 1;bottle #", 4, 9);
    faulty("bottle 1;bottle", 4, 9);
    faulty("bottle 1;bottle 99;", 4, 9);
    faulty("dry 0;dry 0 #", 4, 10);
    faulty(ONE + ONE + ONE + ONE + "one #", 5, 48);
    faulty(ONE + ONE + ONE + ONE + "one x", 5, 48);
    faulty(WELL + WELL + WELL + "well 99", 5, 33);
    faulty("dry 0;#", 1, 6);
    faulty("dry 0;dew 10;", 3, 10);
    faulty("dry 0;dew", 2, 9);
    faulty("bottle # bottle", 1, 7);
    faulty("one # sly", 1, 4);
    faulty("plan # all", 1, 5);
    faulty("one sly # 1", 1, 8);
    faulty("bottle 1 # x", 1, 9);
    terms("1 no TOKEN, a NUMBER that is too long (its first byte).");
    for (int c = 0; c < 128; c++) {
      boolean begins = c == ' ' || c == ';' || c >= '0' && c <= '9' || c >= 'a' && c <= 'z';
      if (!begins) faulty("dew 1; " + (char) c, 1, 7);
      else if (c != ' ') faulty("dew 1; " + (char) c, 2, 7);
    }
    faulty("bottle 100;", 1, 7);
    faulty("bottle 000;", 1, 7);
    faulty("bottle " + "1".repeat(153), 1, 7);
    faulty("123", 1, 0);
    faulty("bottle 1 123;", 1, 9);
    terms("2 a TOKEN that can not stand there (a NAME that begins no line, is no K, no P; or the end: the length).");
    for (String name : new String[] {"a", "ones", "bottl", "bottles", "goat", "plane", "wel", "dewy", "foun", "dri"}) {
      faulty("dew 1;" + name + " 1;", 2, 6);
    }
    faulty("one crow 1 1;", 2, 4);
    faulty("one one 1 1;", 2, 4);
    faulty("plan fly;", 2, 5);
    faulty("plan plan;", 2, 5);
    faulty("one", 2, 3);
    faulty("one   ", 2, 6);
    faulty("one sly 1 1", 2, 11);
    faulty("dew 1;plan", 2, 10);
    faulty("dew 1;plan all  ", 2, 16);
  }

  private static void faultsOfNumbersAndTimes() {
    terms("3 a NUMBER out of its bounds.");
    int[][] ofLine = {{1, 3}, {0, 20}};
    numbersAreWithin("one sly", ofLine, "");
    numbersAreWithin("bottle", new int[][] {{0, 60}}, "");
    numbersAreWithin("goal", new int[][] {{0, 60}, {0, 23}}, "");
    numbersAreWithin("well", new int[][] {{1, 60}, {0, 10}, {1, 20}}, "");
    numbersAreWithin("dew", new int[][] {{0, 9}}, "");
    numbersAreWithin("found", new int[][] {{0, 10}}, "");
    numbersAreWithin("dry", new int[][] {{0, 2}}, WELL + WELL + WELL);
    terms("4 bottle, goal, plan, dew, found for the second time (its NAME); a WELL that is told dry already (it).");
    for (String line : new String[] {"bottle 1;", "goal 1 1;", "plan all;", "dew 1;", "found 1;"}) {
      faulty(line + line, 4, line.length());
      faulty(line + ONE + WELL + " " + line, 4, line.length() + 24);
    }
    taken("bottle 1;goal 1 1;plan all;dew 1;found 1;", 5);
    faulty(WELL + "dry 0;dry 0;", 4, 21);
    faulty("dry 2;dry 1;dry  2;", 4, 17);
    faulty("dry 0;dry 00;", 4, 10);
    taken(WELL + WELL + "dry 0;dry 1;", 4);
    BottleFour x = of("bottle 1;");
    due("the first time of the next text", tell(x, "bottle 2;"), 1);
    due("dry in two texts", tell(x, WELL + "dry 0;") * 10 + tell(x, WELL + "dry 0;"), 22);
    terms("5 the 5th one, the 4th well (its NAME).");
    taken(ONE + ONE + ONE + ONE + WELL + WELL + WELL, 7);
    faulty(ONE + ONE + ONE + ONE + " one sly 1 1;", 5, 49);
    faulty(WELL + WELL + WELL + ONE + " well 1 1 1;", 5, 46);
    terms("Behind all (the length): 6 a WELL that there is not.");
    faulty("dry 0;", 6, 6);
    faulty("dry 0; ", 6, 7);
    faulty(WELL + "dry 1;", 6, 17);
    faulty("dry 2;" + WELL + WELL, 6, 28);
    faulty("dry 0;dry 2;" + WELL + WELL, 6, 34);
    taken("dry 0;" + WELL, 2);
    taken("dry 2;" + WELL + WELL + WELL, 4);
  }

  /** Each number of the line at its lowest and highest, and next to them where two figures tell it. */
  private static void numbersAreWithin(String name, int[][] within, String ahead) {
    int places = within.length;
    for (int i = 0; i < places; i++) {
      for (int v : new int[] {0, within[i][0], within[i][1], within[i][1] + 1, 99}) {
        StringBuilder text = new StringBuilder(ahead).append(name);
        int place = 0;
        for (int j = 0; j < places; j++) {
          text.append(' ');
          if (i == j) place = text.length();
          text.append(i == j ? v : within[j][0]);
        }
        text.append(';');
        if (v >= within[i][0] && v <= within[i][1]) taken(text.toString(), 1 + ahead.length() / WELL.length());
        else faulty(text.toString(), 3, place);
      }
    }
  }

  private static void aTextThatIsTaken() {
    terms("A text that is taken tells all, in place of what there was; nothing is SEEN; IMAGES are gone.");
    for (String text : new String[] {"", "  "}) {
      BottleFour x = rich();
      x.end(0);
      due("a text of nothing", tell(x, text), 0);
      same("all is as at first", rules(x), AT_FIRST);
      due("nothing is SEEN", x.count(0), 0);
      due("IMAGES", x.count(1), 0);
      due("IMAGE 0", x.back(0), STATE);
      due("IMAGE 1", x.back(1), STATE);
      due("SHEETS stay", x.count(3), 4);
      due("torn stays", x.torn(), 1);
    }
    BottleFour x = rich();
    due("a text of one line", x.end(9) + x.text(), 15 + 1);
    same("the rest is as at first", rules(x), "rules 0 0 20 0 18 7 0 0 0");
    tell(x, ONE + WELL);
    same("people and wells of the latest text alone", camp(x), "rules 1 1 20 0 18 0 0 0 0; one 2 1 1; one -1 -1 -1;"
        + " one -1 -1 -1; one -1 -1 -1; well 1 1 1 1; well -1 -1 -1 -1; well -1 -1 -1 -1");
    x = of("one sly 1 1;bottle 1;goal 1 1;plan all;well 1 1 1;dew 1;found 1;dry 0;");
    x.text();
    same("nothing is left of a text that told all", rules(x), AT_FIRST);
    x = of(WELL + "dry 0;");
    tell(x, WELL);
    due("a well that was dry in the text before", x.well(0, 3), 1);
    x.keep(0);
    tell(x, "#");
    due("a text that is refused leaves IMAGES", x.count(1), 1);
  }

  // ---- 2: hours

  private static void over() {
    terms("OVER is the way when MILE is GOAL or more, or all are DOWN (or there is nobody):"
        + " then HOURS go by, and nothing else is.");
    // At 4 in the morning, by PLAN all: dew, drinks, loss and miles would all be seen.
    String camp = "one thirsty 3 9;bottle 5;dew 9;plan all;well 1 9 9;";
    BottleFour x = after(1, camp + "goal 0 4;");
    same("at GOAL", rules(x) + " " + levels(x), "rules 1 1 0 0 5 5 2 9 0 levels 9");
    x = after(1, camp + "goal 1 4;");
    same("a MILE short of it", rules(x) + " " + levels(x), "rules 1 1 1 3 5 22 2 9 0 levels 8");
    x.go(24);
    same("beyond it", rules(x) + " " + levels(x), "rules 1 1 1 3 29 22 2 9 0 levels 8");
    x = after(1, "one last 1 9;goal 3 18;");
    due("just at GOAL", x.rule(3), 3);
    x.go(60);
    same("just at GOAL, hours on", rules(x) + " " + levels(x), "rules 1 0 3 3 79 0 0 0 0 levels 8");
    x = after(1, "one thirsty 3 0;one sly 1 0;bottle 5;dew 9;plan all;well 1 9 9;goal 9 4;");
    same("all are DOWN", rules(x) + " " + levels(x), "rules 2 1 9 0 5 5 2 9 0 levels 0 0");
    x = after(1, "one thirsty 3 0;one last 1 9;bottle 5;dew 9;plan all;well 1 9 9;goal 9 4;");
    same("one is not", rules(x) + " " + levels(x), "rules 2 1 9 3 5 23 2 9 0 levels 0 8");
    x = after(1, "bottle 5;dew 9;plan all;well 1 9 9;goal 9 4;");
    same("there is nobody", rules(x), "rules 0 1 9 0 5 5 2 9 0");
    due("its well", x.well(0, 3), 1);
  }

  private static void dayAndDew() {
    terms("AN HOUR. It is DAY from 6 to 17 (HOUR modulo 24), else NIGHT.");
    for (int h = 0; h < 24; h++) {
      tells("one last 1 9;goal 9 " + h + ";", x -> x.loses(0, false), h >= 6 && h <= 17 ? 1 : 0);
    }
    BottleFour x = of("one last 1 9;goal 0 23;");
    int[][] later = {{6, 0}, {1, 1}, {11, 1}, {1, 0}, {11, 0}, {1, 1}, {11, 1}, {1, 0}};
    for (int[] l : later) {
      x.go(l[0]);
      due("loss at " + x.rule(4), x.loses(0, false), l[1]);
    }
    terms("First at 4 (modulo 24) THE BOTTLE has CLOTHS more (60 at most).");
    String idle = "one last 1 9;dew 9;plan stay;bottle 10;";
    for (int h = 0; h < 24; h++) {
      tells(idle + "goal 9 " + h + ";", y -> y.ahead(1, 1), h == 4 ? 19 : 10);
    }
    x = of("one last 1 20;dew 9;plan stay;bottle 10;goal 9 18;");
    due("at 28: ahead of it", x.ahead(10, 1), 10);
    due("at 28: behind it", x.ahead(11, 1), 19);
    int[][] sixty = {{0, 9}, {50, 59}, {51, 60}, {52, 60}, {60, 60}};
    for (int[] s : sixty) {
      tells("one last 1 9;dew 9;plan stay;goal 9 4;bottle " + s[0] + ";", y -> y.ahead(1, 1), s[1]);
    }
    tells("one last 1 9;plan stay;goal 9 4;bottle 5;", y -> y.ahead(1, 1), 5);
    tells("one measured 1 1;dew 1;plan stay;goal 9 4;", y -> 10 * y.ahead(1, 10) + y.ahead(1, 1), 20);
    tells("one measured 1 1;dew 9;plan stay;goal 9 4;bottle 60;", y -> y.ahead(1, 1), 59);
  }

  private static void drinking() {
    terms("Then they drink: he who POURS is the ONE of number HOUR modulo PEOPLE;");
    String three = "one sly 1 5;one sly 1 5;one sly 1 5;bottle 60;plan stay;";
    same("at 0", levels(after(1, three + "goal 9 0;")), "levels 7 6 6");
    same("at 1", levels(after(1, three + "goal 9 1;")), "levels 6 7 6");
    same("at 2", levels(after(1, three + "goal 9 2;")), "levels 6 6 7");
    same("at 23", levels(after(1, three + "goal 9 23;")), "levels 6 6 7");
    same("at 23, 24 and 25", levels(after(3, three + "goal 9 23;")), "levels 9 9 9");
    same("who pours is DOWN", levels(after(1, "one sly 1 0;one sly 1 5;bottle 9;plan stay;goal 9 0;")), "levels 0 6");
    terms("the one behind him by order first, and so on round, he last (whoever is DOWN is passed over):");
    String[] atOne = {"5 5 5 5", "5 5 6 5", "5 5 6 6", "6 5 6 6", "6 6 6 6", "6 6 6 6"};
    String[] atThree = {"5 5 5 5", "6 5 5 5", "6 6 5 5", "6 6 6 5", "6 6 6 6", "6 6 6 6"};
    String[] atZero = {"5 5 5 5", "5 6 5 5", "5 6 6 5", "5 6 6 6", "6 6 6 6", "6 6 6 6"};
    for (int caps = 0; caps < 6; caps++) {
      String four = "one measured 1 5;".repeat(4) + "plan stay;bottle " + caps + ";";
      same("of " + caps + " at 1", levels(after(1, four + "goal 9 1;")), "levels " + atOne[caps]);
      same("of " + caps + " at 3", levels(after(1, four + "goal 9 3;")), "levels " + atThree[caps]);
      same("of " + caps + " at 0", levels(after(1, four + "goal 9 0;")), "levels " + atZero[caps]);
      due("left of " + caps, after(1, four + "goal 9 1;").rule(5), Math.max(0, caps - 4));
    }
    String gap = "one measured 1 5;one measured 1 5;one measured 1 0;one measured 1 5;plan stay;goal 9 1;";
    same("the one behind him is DOWN", levels(after(1, gap + "bottle 1;")), "levels 5 5 0 6");
    same("the others drink", levels(after(1, gap + "bottle 9;")), "levels 6 6 0 6");
    due("what is left then", after(1, gap + "bottle 9;").rule(5), 6);
    terms("each what he wants, no more than brings LEVEL (his, or that of whom he gives to) to 20, than THE BOTTLE has:"
        + " LEVEL is more by it.");
    drinksAlone("measured", 19, 5, 20, 4);
    drinksAlone("measured", 20, 5, 20, 5);
    drinksAlone("sly", 17, 5, 19, 3);
    drinksAlone("sly", 18, 5, 20, 3);
    drinksAlone("sly", 19, 5, 20, 4);
    drinksAlone("sly", 20, 5, 20, 5);
    drinksAlone("sly", 5, 1, 6, 0);
    drinksAlone("sly", 5, 0, 5, 0);
    drinksAlone("thirsty", 1, 5, 6, 0);
    drinksAlone("thirsty", 1, 8, 9, 0);
    drinksAlone("thirsty", 1, 9, 10, 0);
    drinksAlone("thirsty", 1, 10, 10, 1);
    drinksAlone("thirsty", 10, 5, 10, 5);
    drinksAlone("last", 4, 5, 6, 3);
    drinksAlone("last", 4, 1, 5, 0);
    drinksAlone("last", 5, 5, 5, 5);
    drinksAlone("giver", 19, 5, 20, 4);
    drinksAlone("giver", 20, 5, 20, 5);
    drinksAlone("giver", 9, 0, 9, 0);
    BottleFour x = after(1, "one giver 1 20;one last 1 19;bottle 5;plan stay;");
    same("given to, up to 20", levels(x) + " " + x.rule(5), "levels 20 20 4");
    x = after(1, "one giver 1 9;one last 1 8;plan stay;");
    same("nothing to give", levels(x) + " " + x.rule(5), "levels 9 8 0");
  }

  /** One of a kind drinks for an hour by night, when he loses nothing. */
  private static void drinksAlone(String kind, int level, int bottle, int levelThen, int bottleThen) {
    BottleFour x = after(1, "one " + kind + " 1 " + level + ";bottle " + bottle + ";plan stay;");
    due(kind + " of " + level + " of " + bottle, x.one(0, 2), levelThen);
    due("left by " + kind + " of " + level + " of " + bottle, x.rule(5), bottleThen);
  }

  private static void walkingAndLosing() {
    terms("They walk, if MILE is less than GOAL and by PLAN: night by NIGHT, day by DAY, all always, stay never.");
    int[] hours = {5, 6, 17, 18};
    int[][] miles = {{3, 0, 0, 3}, {0, 2, 2, 0}, {3, 2, 2, 3}, {0, 0, 0, 0}};
    for (int plan = 0; plan < 4; plan++) {
      for (int h = 0; h < 4; h++) {
        String text = "one last 1 20;plan " + PLAN_NAMES[plan] + ";goal ";
        tells(text + "9 " + hours[h] + ";", x -> x.ahead(1, 0), miles[plan][h]);
        tells(text + "1 " + hours[h] + ";", x -> x.ahead(1, 0), miles[plan][h]);
        tells(text + "0 " + hours[h] + ";", x -> x.ahead(1, 0), 0);
      }
    }
    // By night from 23: 3 miles each at 23, 24 .. 29; none at 30.
    BottleFour x = of("one last 1 20;goal 60 23;");
    due("over midnight", x.ahead(7, 0), 21);
    due("in the morning", x.ahead(19, 0), 21);
    terms("Each who is not DOWN loses 1 by DAY, 1 if they walk; of SIZE 2 1 in even HOURS, of SIZE 3 1 in each;"
        + " LEVEL is 0 at least.");
    String sizes = "one last 1 9;one last 2 9;one last 3 9;one last 3 0;";
    losing(sizes + "plan stay;goal 9 4;", "9 8 8 0");
    losing(sizes + "plan stay;goal 9 5;", "9 9 8 0");
    losing(sizes + "plan stay;goal 9 6;", "8 7 7 0");
    losing(sizes + "plan stay;goal 9 17;", "8 8 7 0");
    losing(sizes + "plan all;goal 9 4;", "8 7 7 0");
    losing(sizes + "plan all;goal 9 5;", "8 8 7 0");
    losing(sizes + "plan all;goal 9 6;", "7 6 6 0");
    losing(sizes + "plan all;goal 9 17;", "7 7 6 0");
    losing("one measured 3 1;one measured 3 2;one measured 3 3;one measured 3 4;plan all;goal 9 8;", "0 0 0 1");
    losing("one last 2 1;one last 2 1;plan all;goal 9 9;", "0 0");
    losing("one last 1 1;one last 1 9;plan stay;goal 9 8;", "0 8");
    x = of("one last 2 9;goal 9 23;plan stay;");
    due("behind 23", x.ahead(1, 10), 9);
    due("behind 24, which is even", x.ahead(2, 10), 8);
    due("behind 25", x.ahead(3, 10), 8);
  }

  private static void losing(String text, String levels) {
    same("behind an hour of '" + text + "'", levels(after(1, text)), "levels " + levels);
  }

  private static void milesAndWells() {
    terms("If they walk, and not all are DOWN then: MILE is more by 3 by NIGHT, 2 by DAY, 1 less,"
        + " if the LEVEL of a ONE who is not DOWN is 5 or less;");
    miles("one last 1 7;plan all;goal 9 18;", 3);
    miles("one last 1 6;plan all;goal 9 18;", 2);
    miles("one last 1 2;plan all;goal 9 18;", 2);
    miles("one last 1 1;plan all;goal 9 18;", 0);
    miles("one last 1 8;plan all;goal 9 8;", 2);
    miles("one last 1 7;plan all;goal 9 8;", 1);
    miles("one last 1 3;plan all;goal 9 8;", 1);
    miles("one last 1 2;plan all;goal 9 8;", 0);
    miles("one last 1 9;one last 1 6;plan all;goal 9 18;", 2);
    miles("one last 1 6;one last 1 9;plan all;goal 9 18;", 2);
    miles("one last 1 9;one last 1 0;plan all;goal 9 18;", 3);
    miles("one last 1 9;one last 1 1;plan all;goal 9 18;", 3);
    miles("one last 1 0;one last 1 0;plan all;goal 9 18;", 0);
    miles("one last 1 1;one last 1 1;plan all;goal 9 18;", 0);
    miles("one last 1 3;plan stay;goal 9 18;", 0);
    terms("of each WELL beyond where they were, up to where they are, by order: if it is WET, THE BOTTLE has its CAPS"
        + " more (60 at most), it is not WET then.");
    String walker = "one last 1 20;plan all;goal 9 18;";
    wellsBehind(walker + "well 1 0 7;well 3 0 5;well 4 0 9;", 12, "0 0 1");
    wellsBehind(walker + "well 4 0 9;well 3 0 5;well 2 0 1;", 6, "1 0 0");
    wellsBehind(walker + "well 3 0 7;well 3 0 7;", 14, "0 0");
    wellsBehind(walker + "well 2 9 7;dry 0;", 0, "0");
    wellsBehind(walker + "well 3 0 7;bottle 53;", 60, "0");
    wellsBehind(walker + "well 3 0 7;bottle 54;", 60, "0");
    wellsBehind(walker + "well 3 0 7;bottle 60;", 60, "0");
    wellsBehind(walker + "well 1 0 20;well 2 0 20;well 3 0 20;", 60, "0 0 0");
    wellsBehind("one last 1 20;plan all;goal 1 18;well 3 0 7;well 4 0 9;", 7, "0 1");
    wellsBehind("one last 1 20;plan stay;goal 9 18;well 1 0 7;", 0, "1");
    wellsBehind("one last 1 1;plan all;goal 9 18;well 1 0 7;", 0, "1");
    BottleFour x = after(1, walker + "well 3 0 7;");
    x.wet(0, true);
    x.go(1);
    due("a well where they were", x.rule(5), 7);
    due("it is WET still", x.well(0, 3), 1);
    terms("HOUR is 1 more.");
    due("HOUR", after(1, walker).rule(4), 19);
    due("HOUR behind 60", after(60, walker).rule(4), 78);
    due("HOUR of nobody", after(1, "").rule(4), 19);
  }

  private static void miles(String text, int want) {
    due("MILE behind an hour of '" + text + "'", after(1, text).rule(3), want);
  }

  private static void wellsBehind(String text, int bottle, String wet) {
    BottleFour x = after(1, text);
    StringBuilder got = new StringBuilder();
    for (int i = 0; i < x.rule(1); i++) got.append(i == 0 ? "" : " ").append(x.well(i, 3));
    due("THE BOTTLE behind '" + text + "'", x.rule(5), bottle);
    same("WET behind '" + text + "'", got.toString(), wet);
  }

  // ---- 2: arriving, what was seen, sheets

  private static void arriving() {
    terms("ARRIVING by a PLAN: HOURS go by it till MILE is GOAL or more, 96 at most; those who are not DOWN then arrive.");
    arrives("one last 1 20;goal 0 18;", 0, 1, 0);
    arrives("one last 1 20;goal 0 18;", 3, 1, 0);
    arrives("one last 1 20;goal 3 18;", 0, 1, 1);
    arrives("one last 1 20;goal 4 18;", 0, 1, 2);
    arrives("one last 1 0;goal 0 18;", 0, 0, NONE);
    arrives("", 0, 0, NONE);
    arrives("goal 0 18;", 0, 0, NONE);
    arrives("one last 1 20;one last 1 0;goal 3 18;", 0, 1, 1);
    arrives("one last 1 20;one last 1 1;goal 3 18;", 0, 1, 1);
    arrives("one last 1 2;one last 1 2;goal 2 18;", 0, 2, 1);
    arrives("one last 1 2;goal 3 18;", 0, 0, NONE);
    // With 5 or less he makes a mile an hour by day, 12 a day, and drinks what he loses.
    String slow = "one last 1 5;bottle 60;dew 9;well 20 9 20;";
    arrives(slow + "goal 48 18;", 1, 1, 96);
    arrives(slow + "goal 48 19;", 1, 1, 95);
    arrives(slow + "goal 48 17;", 1, 1, 96);
    arrives(slow + "goal 49 17;", 1, 0, NONE);
    arrives(slow + "goal 49 18;", 1, 0, NONE);
    tells(slow + "goal 49 18;plan day;", x -> x.ahead(96, 2), 1);
    arrives("one thirsty 1 20;bottle 60;goal 1 18;", 3, 0, NONE);
    tells("one thirsty 1 20;bottle 60;goal 1 18;plan stay;", x -> x.ahead(96, 2), 1);
  }

  private static void arrives(String text, int plan, int howMany, int hours) {
    due("arrive " + plan + " of '" + text + "'", of(text).arrive(plan, 0), howMany);
    due("hours by " + plan + " of '" + text + "'", of(text).arrive(plan, 1), hours);
  }

  private static void seen() {
    terms("SEEN (6): behind n HOURS (1 to 24) from now on, by PLAN, THE BOTTLE had so much.");
    BottleFour x = of("one measured 1 5;bottle 30;plan stay;");
    for (int i = 1; i <= 6; i++) due("see " + i, x.see(24, 6), i);
    due("the 7th", x.see(24, 6), FULL);
    due("0 HOURS", x.see(0, 6), BAD);
    due("25 HOURS", x.see(25, 6), BAD);
    // Who is measured, or a giver alone, drinks 1 an hour: 24 of 30.
    due("behind 24 HOURS: measured, giver", x.kinds(0), 1 + 16);
    x.go(1);
    due("from an HOUR later on it would be 5", x.kinds(0), 0);
    x.fill(30);
    due("from now on it is 6 again", x.kinds(0), 1 + 16);
    x.plan(2);
    due("by another PLAN he is there behind 10", x.kinds(0), 0);
    x.forget(0);
    x.plan(3);
    x.see(1, 29);
    due("behind 1 HOUR: measured, thirsty no more, giver", x.kinds(0), 1 + 16);
    terms("KINDS of all FIT, if by them (all else as it is) all is as SEEN.");
    due("when all is as SEEN", x.fits(0), 2);
    x.see(2, 28);
    due("and more of it", x.fits(0), 2);
    x.see(2, 27);
    due("not when one of them is not", x.fits(0), 0);
    x.forget(1);
    x.fill(29);
    due("all else is as it is", x.fits(0), 1);
    due("last drinks nothing", x.fits(1), 3);
    due("what he was is nothing to it", x.teach(0, 1) + 10 * x.fits(1), 30);
    due("KINDS stay", x.one(0, 0), 1);
  }

  private static void sheets() {
    terms("SHEETS 0 to 3 are rows of BYTES (lane 0), SHORTS (1), INTS (2) with 0 to 40 CELLS, or nothing (at first).");
    for (int k = 0; k < 4; k++) {
      BottleFour x = of("one sly 1 5;bottle 9;");
      due("nothing at first", x.put(k, 0, 0), -11);
      for (int lane = 0; lane < 3; lane++) {
        due("of no CELLS", x.sheet(k, lane, 0), 1);
        due("CELL 0 of none", x.put(k, 0, 0), -12);
        due("of 40 CELLS", x.sheet(k, lane, 40), 1);
        due("CELL 0", x.put(k, 0, 0), 1);
        due("CELL 39", x.put(k, 39, 0), 1);
        due("CELL 40", x.put(k, 40, 0), -12);
        due("of 41 CELLS", x.sheet(k, lane, 41), BAD);
        due("taken as of its lane", x.read(k, lane, 38, 1), 1);
      }
      due("lane 3", x.sheet(k, 3, 1), BAD);
      due("lane -1", x.sheet(k, -1, 1), BAD);
    }
    due("SHEET 4", new BottleFour().sheet(4, 0, 1), BAD);
    due("SHEET -1", new BottleFour().sheet(-1, 0, 1), BAD);
    terms("A FAULT is what the machine finds: 1 NULL (nothing), 2 INDEX, 3 CAST (another lane), 4 SIZE (below 0).");
    BottleFour x = of("one sly 1 5;bottle 9;");
    due("NULL of put", x.put(0, 0, 0), -10 - 1);
    due("NULL of read", x.read(0, 0, 0, 1) + x.torn(), 1);
    x.sheet(0, 1, 2);
    due("INDEX of put", x.put(0, 2, 0), -10 - 2);
    due("INDEX of put below 0", x.put(0, -1, 0), -10 - 2);
    due("INDEX of read", x.read(0, 1, 2, 1) + x.torn(), 2);
    due("CAST of read", x.read(0, 0, 0, 1) + x.torn(), 3);
    due("CAST of read", x.read(0, 2, 0, 1) + x.torn(), 3);
    due("no CAST", x.read(0, 1, 0, 1) + x.torn(), 1);
    due("SIZE of sheet", x.sheet(0, 0, -1), -10 - 4);
  }

  public static void main(String[] args) {
    calls512();
    answers();
    theFirstThatFits();
    whatIsRefused();
    fractions();
    people();
    theWay();
    clothsFoundWells();
    kinds();
    tape();
    lines();
    whatALineTells();
    faults();
    faultsOfNumbersAndTimes();
    aTextThatIsTaken();
    over();
    dayAndDew();
    drinking();
    walkingAndLosing();
    milesAndWells();
    arriving();
    seen();
    sheets();
    allIsTestedOf("Terms");
    finish("the boundaries of Terms hold");
  }
}

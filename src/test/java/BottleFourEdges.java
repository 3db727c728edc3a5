/**
 * The boundaries that the promises name: a sentence of the document, then what it asks for. Sentences
 * are the document's own words; the last test finds words of a promise that no sentence here has.
 * What bounds, full things and empty things of "Terms" ask for is in BottleFourTerms.
 */
public final class BottleFourEdges extends Checks {
  private static final String ONE = "one sly 1 1;";
  private static final String WELL = "well 1 1 1;";
  /** He walks by night 3 miles an hour; he drinks nothing before he has 4 or less. */
  private static final String STRONG = "one last 1 20;";

  private static void promise(int number, String words) {
    sentence("Promise " + number, words);
  }

  /** An object of so many bytes on its tape. */
  private static BottleFour withTape(int bytes) {
    BottleFour x = new BottleFour();
    for (int i = 0; i < bytes; i++) x.feed(' ');
    return x;
  }

  private static void aNewObject() {
    promise(1, "Nobody, an empty bottle; SHEETS have nothing.");
    BottleFour x = new BottleFour();
    same("new", rules(x), "rules 0 0 20 0 18 0 0 0 0");
    same("new", counts(x), "counts 0 0 0 -4 0 0 0");
    due("nobody", x.one(0, 0), BAD);
    due("nobody pours", x.pours(), NONE);
    for (int k = 0; k < 4; k++) {
      due("SHEET " + k + " has nothing", x.put(k, 0, 0), -11);
      for (int lane = 0; lane < 3; lane++) due("SHEET " + k + " read", x.read(k, lane, 0, 1) + x.torn(), 1);
    }
    x = new BottleFour();
    due("no FAULT", x.fault(), 0);
    due("no FAULT of a read", x.torn(), 0);
    due("no IMAGE 0", x.back(0), STATE);
    due("no IMAGE 1", x.back(1), STATE);
    due("nothing is told", x.text(), 0);
    BottleFour other = new BottleFour();
    x.fill(9);
    x.sheet(0, 0, 1);
    due("another object has its own bottle", other.rule(5), 0);
    due("another object has its own sheets", other.count(3), NONE);
  }

  // ---- the text, what there is

  private static void feed() {
    promise(2, "A byte (0 to 127) comes behind THE TAPE: how many it has.");
    due("byte 0", new BottleFour().feed(0), 1);
    due("byte 127", new BottleFour().feed(127), 1);
    bounds("feed", 0, 127, BottleFour::feed);
    BottleFour x = new BottleFour();
    feedAll(x, "bottle ");
    due("behind 7", x.feed('9'), 8);
    due("behind 8", x.feed(';'), 9);
    due("as it came", x.text() + 10 * x.rule(5), 91);
    due("the first of the next", x.feed(' '), 1);
    promise(2, "BAD; FULL: more than 160.");
    x = withTape(151);
    feedAll(x, "bottle 7");
    due("the 160th", x.feed(';'), 160);
    due("the 161st", x.feed('#'), FULL);
    due("and again", x.feed(';'), FULL);
    due("BAD first", x.feed(-1), BAD);
    due("bytes then", x.count(2), 160);
    due("the text of 160 bytes is as it was", x.text() + 10 * x.rule(5), 71);
    due("room then", x.feed(' '), 1);
  }

  private static void end() {
    promise(3, "THE TAPE keeps its first n bytes: how many it had.");
    BottleFour x = new BottleFour();
    due("none of none", x.end(0), 0);
    feedAll(x, "bottle 7;x");
    due("all", x.end(10), 10);
    due("all are there", x.count(2), 10);
    due("all but one", x.end(9), 10);
    due("those are there", x.count(2), 9);
    due("what is kept is the first", x.text() + 10 * x.rule(5), 71);
    x = withTape(160);
    due("all of a full one", x.end(160), 160);
    due("one less", x.end(159), 160);
    due("there is room for one then", x.feed(' '), 160);
    due("and no more", x.feed(' '), FULL);
    due("none of a full one", x.end(0), 160);
    due("it is empty", x.count(2), 0);
    feedAll(x, "bottle 12;");
    x.end(8);
    due("what is cut off is not read", x.text(), -18);
    promise(3, "BAD.");
    due("-1 of none", new BottleFour().end(-1), BAD);
    due("1 of none", new BottleFour().end(1), BAD);
    due("161 of a full one", withTape(160).end(161), BAD);
    bounds("end, of 15 bytes", 0, 15, BottleFour::end);
  }

  private static void text() {
    promise(4, "THE TAPE (empty then) tells all: how many lines;");
    BottleFour x = new BottleFour();
    due("an empty tape", x.text(), 0);
    due("a line", tell(x, "bottle 7;"), 1);
    due("empty then", x.count(2), 0);
    due("the empty tape tells that there is nothing", x.text(), 0);
    same("all is as at first", rules(x), "rules 0 0 20 0 18 0 0 0 0");
    due("14 lines", tell(x, ONE + ONE + ONE + ONE + "bottle 1;goal 1 1;plan all;" + WELL + WELL
        + "dew 1;found 1;dry 0;dry 1;" + WELL), 14);
    feedAll(x, "x");
    x.text();
    due("empty behind a FAULT, too", x.count(2), 0);
    x = withTape(160);
    due("a full tape of blanks", x.text(), 0);
    due("it is empty then", x.count(2), 0);
    promise(4, "-10 less the place of its FAULT: that which was told stays.");
    faulty("#", 1, 0);
    faulty(" #", 1, 1);
    faulty(" ".repeat(159) + ";", 2, 159);
    faulty("dew 1;" + " ".repeat(151) + "dew", 4, 157);
    faulty(" ".repeat(157) + "dew", 2, 160);
    String told = "one giver 3 4;bottle 5;goal 6 7;plan stay;well 8 9 10;dew 3;found 2;";
    String[] refused = {"#", "x", "bottle 61;", "bottle 1;bottle 1;", ONE + ONE + ONE + ONE + ONE, "dry 0;",
        "one last 1 9;goal 1 1;well 9 9 9;bottle 9;plan day;dew 9;found 9"};
    for (String text : refused) {
      x = of(told);
      due("it has a FAULT: " + text, tell(x, text) < 0 ? 1 : 0, 1);
      same("what was told stays", camp(x), camp(of(told)));
      // Whatever a text told ahead of its FAULT is not left for the next.
      due("the next text", tell(x, "plan all;"), 1);
      same("it tells all by itself", rules(x), "rules 0 0 20 0 18 0 2 0 0");
    }
  }

  private static void fault() {
    promise(5, "The FAULT of the latest text(); 0.");
    BottleFour x = new BottleFour();
    due("no text yet", x.fault(), 0);
    String[] texts = {"#", "x", "dew 10;", "dew 1;dew 1;", WELL + WELL + WELL + WELL, "dry 0;"};
    for (int i = 0; i < texts.length; i++) {
      tell(x, texts[i]);
      due("FAULT of " + texts[i], x.fault(), i + 1);
      x.feed(128);
      x.feed('#');
      x.end(0);
      x.read(0, 0, 0, 1);
      due("it stays till the next text", x.fault(), i + 1);
    }
    tell(x, "dew 9;");
    due("none of the latest", x.fault(), 0);
    tell(x, "#");
    x.text();
    due("none of an empty text", x.fault(), 0);
  }

  private static void ruleOneWell() {
    promise(6, "0 PEOPLE, 1 WELLS, 2 GOAL, 3 MILE, 4 HOUR, 5 CAPS in THE BOTTLE, 6 PLAN, 7 CLOTHS, 8 FOUND. BAD.");
    BottleFour x = of("one last 1 20;one last 1 9;well 9 3 12;goal 40 18;bottle 30;plan all;dew 3;found 7;");
    same("told", rules(x), "rules 2 1 40 0 18 30 2 3 7");
    x.go(2);
    same("behind 2 HOURS", rules(x), "rules 2 1 40 6 20 30 2 3 7");
    bounds("rule", 0, 8, BottleFour::rule);
    promise(7, "Of a ONE: 0 KIND, 1 SIZE, 2 LEVEL, 3 what he wants now (0: he is DOWN). BAD.");
    x = of("one giver 3 20;one thirsty 2 1;one sly 1 0;one last 1 0;goal 1 2;");
    int[][] ones = {{4, 3, 20, 1}, {1, 2, 1, 9}, {2, 1, 0, 0}, {3, 1, 0, 0}};
    for (int p = 0; p < 4; p++) {
      for (int what = 0; what < 4; what++) due("one " + p + ", " + what, x.one(p, what), ones[p][what]);
    }
    due("who is DOWN wants nothing, though he pours", x.pours() * 10 + x.one(2, 3), 20);
    x = of("one measured 1 0;one thirsty 1 0;one last 1 0;one giver 1 0;");
    for (int p = 0; p < 4; p++) due("who is DOWN wants nothing: " + p, x.one(p, 3), 0);
    due("what he wants, not what he would get", of("one measured 1 20;").one(0, 3), 1);
    x = of("one thirsty 1 4;one sly 1 9;bottle 9;goal 9 18;plan stay;");
    due("now", x.drink(0, 1) * 10 + x.one(0, 3), 55);
    due("an HOUR later, when he pours", x.one(1, 3) + 10 * x.go(1) + 100 * x.one(1, 3), 221);
    due("of his new KIND", x.teach(1, 3) * 10 + x.one(1, 3), 20);
    bounds("one", 0, 3, (y, p) -> y.one(p, 0));
    bounds("one, what", 0, 3, (y, what) -> y.one(0, what));
    promise(8, "Of a WELL: 0 MILE, 1 ODDS, 2 CAPS, 3 whether it is WET (1, 0). BAD.");
    x = of("well 60 10 20;well 1 0 1;dry 1;");
    int[][] wells = {{60, 10, 20, 1}, {1, 0, 1, 0}};
    for (int i = 0; i < 2; i++) {
      for (int what = 0; what < 4; what++) due("well " + i + ", " + what, x.well(i, what), wells[i][what]);
    }
    due("no WELL 2 of two", x.well(2, 0), BAD);
    bounds("well", 0, 2, (y, i) -> y.well(i, 0));
    bounds("well, what", 0, 3, (y, what) -> y.well(0, what));
  }

  private static void poursAndLoses() {
    promise(9, "Who POURS now.");
    for (int people = 1; people <= 4; people++) {
      for (int hour : new int[] {0, 1, 2, 3, 4, 22, 23}) {
        due(people + " at " + hour, of(ONE.repeat(people) + "goal 0 " + hour + ";").pours(), hour % people);
      }
      BottleFour x = of(ONE.repeat(people) + "goal 0 23;");
      x.go(1);
      due(people + " at 24", x.pours(), 0);
      x.go(1);
      due(people + " at 25", x.pours(), people == 1 ? 0 : 1);
    }
    due("he who is DOWN", of("one sly 1 0;one sly 1 1;goal 1 2;").pours(), 0);
    promise(9, "NONE: there is nobody.");
    due("nobody", new BottleFour().pours(), NONE);
    due("nobody any more", tell(of(ONE), "") * 10 + of("").pours(), NONE);
    promise(10, "What a ONE would lose in this HOUR (DOWN: 0), if they walk, or not. BAD.");
    String sizes = "one last 1 9;one last 2 9;one last 3 9;one last 3 0;goal 9 ";
    int[][] byHour = {{4, 0, 1, 1}, {5, 0, 0, 1}, {6, 1, 2, 2}, {17, 1, 1, 2}, {18, 0, 1, 1}, {23, 0, 0, 1}};
    for (int[] h : byHour) {
      BottleFour x = of(sizes + h[0] + ";");
      for (int p = 0; p < 3; p++) {
        due(p + " at " + h[0], x.loses(p, false), h[p + 1]);
        due(p + " at " + h[0] + ", walking", x.loses(p, true), h[p + 1] + 1);
      }
      due("DOWN", x.loses(3, false), 0);
      due("DOWN, walking", x.loses(3, true), 0);
    }
    due("a LEVEL of 1", of("one last 3 1;goal 9 12;").loses(0, true), 3);
    due("if they walk, whatever PLAN is", of("one last 1 9;plan stay;").loses(0, true), 1);
    bounds("loses", 0, 3, (y, p) -> y.loses(p, true));
  }

  // ---- what is changed

  private static void teach() {
    promise(11, "A ONE becomes of a KIND: of which he was. BAD.");
    BottleFour x = of(ONE + "one last 2 9;");
    due("to 0", x.teach(0, 0), 2);
    due("to 4", x.teach(0, 4), 0);
    due("to what he is", x.teach(0, 4), 4);
    due("KIND then", x.one(0, 0), 4);
    due("the other's KIND", x.one(1, 0), 3);
    due("who is DOWN", of("one sly 1 0;").teach(0, 1), 2);
    bounds("teach", 0, 3, (y, p) -> y.teach(p, 0));
    bounds("teach, kind", 0, 4, (y, kind) -> y.teach(0, kind));
  }

  private static void drink() {
    promise(12, "A ONE drinks so many CAPS (0 to 20) now: his LEVEL then.");
    BottleFour x = of("one sly 1 5;one last 1 9;bottle 30;");
    due("0", x.drink(0, 0), 5);
    due("1", x.drink(0, 1), 6);
    due("THE BOTTLE then", x.rule(5), 29);
    due("LEVEL then", x.one(0, 2), 6);
    due("the other's LEVEL", x.one(1, 2), 9);
    due("19 of a LEVEL of 1", of("one sly 1 1;bottle 60;").drink(0, 19), 20);
    due("20 is as told", of("one sly 1 1;bottle 60;").drink(0, 20), FULL);
    due("a drink when the way is OVER", of("one sly 1 1;bottle 9;goal 0 0;").drink(0, 9), 10);
    promise(12, "BAD; STATE: he is DOWN, THE BOTTLE has not so many; FULL: LEVEL would be more than 20.");
    x = of("one sly 1 15;one sly 1 0;bottle 5;");
    due("who is DOWN", x.drink(1, 1), STATE);
    due("who is DOWN, nothing", x.drink(1, 0), STATE);
    due("one more than THE BOTTLE has", x.drink(0, 6), STATE);
    due("all that it has, to 20", x.drink(0, 5), 20);
    due("nothing of an empty bottle", x.drink(0, 0), 20);
    due("1 of an empty bottle", x.drink(0, 1), STATE);
    x.fill(1);
    due("1 above 20", x.drink(0, 1), FULL);
    due("nothing at 20", x.drink(0, 0), 20);
    bounds("drink", 0, 3, (y, p) -> y.drink(p, 0));
    bounds("drink, caps", 0, 20, (y, caps) -> y.drink(1, caps));
    refused("drink of who is DOWN", y -> y.drink(3, 1), STATE);
    refused("drink of an empty bottle", y -> y.fill(0), y -> y.drink(1, 1), STATE);
    refused("drink above 20", y -> y.drink(0, 20), FULL);
  }

  private static void fillPlanWetOddLay() {
    promise(13, "THE BOTTLE has v CAPS (0 to 60): how many it had. BAD.");
    BottleFour x = new BottleFour();
    due("60", x.fill(60), 0);
    due("0", x.fill(0), 60);
    due("THE BOTTLE then", x.rule(5), 0);
    bounds("fill", 0, 60, BottleFour::fill);
    promise(14, "PLAN becomes k: what it was. BAD.");
    x = new BottleFour();
    for (int k = 0; k < 4; k++) due("to " + k, x.plan(k), Math.max(0, k - 1));
    due("PLAN then", x.rule(6), 3);
    due("to what it is", x.plan(3), 3);
    bounds("plan", 0, 3, BottleFour::plan);
    promise(15, "A WELL is WET, or not: whether it was. BAD.");
    x = of(WELL + WELL + WELL);
    due("not", x.wet(2, false), 1);
    due("not again", x.wet(2, false), 0);
    due("the others are", x.count(6), 2);
    due("WET", x.wet(2, true), 0);
    due("WET again", x.wet(2, true), 1);
    due("all are", x.count(6), 3);
    bounds("wet", 0, 2, (y, i) -> y.wet(i, true));
    bounds("not wet", 0, 2, (y, i) -> y.wet(i, false));
    promise(16, "ODDS of a WELL become v: what they were. BAD.");
    x = of("well 1 5 1;well 1 6 1;well 1 7 1;");
    due("0", x.odd(1, 0), 6);
    due("10", x.odd(1, 10), 0);
    due("ODDS then", x.well(1, 1), 10);
    due("of the one before", x.well(0, 1), 5);
    due("of the one behind", x.well(2, 1), 7);
    due("a WELL that is not WET", x.wet(0, false) * 10 + x.odd(0, 1), 15);
    bounds("odd", 0, 2, (y, i) -> y.odd(i, 0));
    bounds("odd, v", 0, 10, (y, v) -> y.odd(0, v));
    promise(17, "CLOTHS (what 0), FOUND (1) become v: what they were. BAD.");
    x = of("dew 4;found 5;");
    due("CLOTHS 9", x.lay(0, 9), 4);
    due("CLOTHS 0", x.lay(0, 0), 9);
    due("FOUND 10", x.lay(1, 10), 5);
    due("FOUND 0", x.lay(1, 0), 10);
    due("CLOTHS 9 again", x.lay(0, 9), 0);
    due("CLOTHS alone then", x.rule(7) * 100 + x.rule(8), 900);
    bounds("lay, what", 0, 1, (y, what) -> y.lay(what, 1));
    bounds("lay, CLOTHS", 0, 9, (y, v) -> y.lay(0, v));
    bounds("lay, FOUND", 0, 10, (y, v) -> y.lay(1, v));
  }

  // ---- hours

  private static void go() {
    promise(18, "n HOURS go (0 to 60): how many are not DOWN then.");
    // By day each loses 1: they are down behind 1 and 2 hours, and behind 32, of which 20 are by day.
    BottleFour x = of("one last 1 1;one last 1 2;one last 1 20;one last 1 0;goal 60 6;plan stay;");
    due("0 HOURS", x.go(0), 3);
    due("no HOUR went", x.rule(4), 6);
    due("1 HOUR", x.go(1), 2);
    due("1 more", x.go(1), 1);
    same("LEVELS then", levels(x), "levels 0 0 18 0");
    due("60 HOURS", x.go(60), 0);
    due("HOUR then", x.rule(4), 68);
    due("nobody", new BottleFour().go(60), 0);
    x = of(STRONG + "plan stay;");
    x.plan(0);
    due("by the PLAN of now", x.go(1) * 10 + x.rule(3), 13);
    bounds("go", 0, 60, BottleFour::go);
    promise(18, "BAD; FULL: HOUR would be 1000 or more.");
    x = of(STRONG + "goal 0 23;");
    for (int i = 0; i < 16; i++) due("60 HOURS", x.go(60), 1);
    due("HOUR", x.rule(4), 983);
    due("to 1000", x.go(17), FULL);
    due("to 1043", x.go(60), FULL);
    due("BAD first", x.go(61), BAD);
    due("HOUR still", x.rule(4), 983);
    due("to 999", x.go(16), 1);
    due("HOUR", x.rule(4), 999);
    due("1 more", x.go(1), FULL);
    due("none more", x.go(0), 1);
    due("what is ahead is no HOUR that goes", x.ahead(96, 2), 1);
    x.text();
    due("behind a text HOURS go again", x.go(60), 0);
    Call late = y -> {
      for (int i = 0; i < 16; i++) y.go(60);
      return 0;
    };
    refused("go to 1000", late, y -> y.go(20), FULL);
    refused("go beyond 1000", late, y -> y.go(60), FULL);
  }

  private static void ahead() {
    promise(19, "Behind n HOURS (0 to 96) from now on by PLAN: MILE (what 0), CAPS in THE BOTTLE (1), how many are not"
        + " DOWN (2); 10 and p: LEVEL of a ONE. BAD.");
    // 48 hours by day in 96 lose 48: his 20 and 28 of the bottle.
    BottleFour x = of(STRONG + "bottle 28;goal 60 18;plan stay;");
    due("0: MILE", x.ahead(0, 0), 0);
    due("0: CAPS", x.ahead(0, 1), 28);
    due("0: who is not DOWN", x.ahead(0, 2), 1);
    due("0: LEVEL", x.ahead(0, 10), 20);
    due("95: who is not DOWN", x.ahead(95, 2), 1);
    due("95: LEVEL", x.ahead(95, 10), 1);
    due("96: who is not DOWN", x.ahead(96, 2), 0);
    due("96: LEVEL", x.ahead(96, 10), 0);
    due("96: CAPS", x.ahead(96, 1), 0);
    due("96: MILE by PLAN stay", x.ahead(96, 0), 0);
    x.plan(0);
    due("1: MILE by PLAN night", x.ahead(1, 0), 3);
    due("from now on", x.go(1) * 10 + x.ahead(1, 0), 16);
    x = of("one last 1 4;one last 1 5;one last 1 6;one last 1 7;plan stay;");
    for (int p = 0; p < 4; p++) due("10 and " + p, x.ahead(0, 10 + p), 4 + p);
    due("10 and 4", x.ahead(0, 14), BAD);
    due("10 less 1", x.ahead(0, 9), BAD);
    due("10 of nobody", new BottleFour().ahead(0, 10), BAD);
    due("nobody", new BottleFour().ahead(96, 2), 0);
    bounds("ahead", 0, 96, (y, n) -> y.ahead(n, 0));
    bounds("ahead, what", 0, 2, (y, what) -> y.ahead(1, what));
    bounds("ahead, 10 and p", 10, 13, (y, what) -> y.ahead(1, what));
    onlyAsks("ahead", y -> y.ahead(96, 0));
  }

  private static void down() {
    promise(20, "Behind how many HOURS (0 to 96) from now on by PLAN a ONE is DOWN first.");
    BottleFour x = of("one last 1 0;one last 1 1;one last 1 2;goal 60 6;plan stay;");
    for (int p = 0; p < 3; p++) due("who has " + p, x.down(p), p);
    due("behind 96", of(STRONG + "bottle 28;goal 60 18;plan stay;").down(0), 96);
    due("behind 95", of(STRONG + "bottle 28;goal 60 19;plan stay;").down(0), 95);
    due("who is DOWN at GOAL", of("one last 1 0;goal 0 0;").down(0), 0);
    x.go(1);
    due("from now on", x.down(2), 1);
    // By day and walking he loses 2.
    x = of("one last 1 4;goal 60 6;plan stay;");
    due("staying", x.down(0), 4);
    x.plan(1);
    due("by PLAN day", x.down(0), 2);
    onlyAsks("down", y -> y.down(0));
    promise(20, "BAD; NONE: behind none of these.");
    due("behind 97 or more", of(STRONG + "bottle 29;goal 60 18;plan stay;").down(0), NONE);
    due("behind 97", of(STRONG + "bottle 28;goal 60 17;plan stay;").down(0), 96);
    due("at GOAL", of("one last 1 1;goal 0 6;").down(0), NONE);
    due("come to GOAL", of("one last 1 3;goal 2 18;").down(0), NONE);
    bounds("down", 0, 3, BottleFour::down);
  }

  // ---- who arrives

  private static void arrive() {
    promise(21, "ARRIVING by a PLAN: how many arrive (what 0), behind how many HOURS (1; NONE: nobody does). BAD.");
    BottleFour x = of(STRONG + "one last 1 0;goal 20 18;plan stay;");
    // By night 3 an hour: 7. By day from 30 on, 2 an hour, 2 lost: from 20 to 6 in 7 hours, 14 miles;
    // then he has 4 and makes 1 an hour: 2 more miles and he is down at 16.
    due("by night", x.arrive(0, 0), 1);
    due("by night, HOURS", x.arrive(0, 1), 7);
    due("by day", x.arrive(1, 0), 0);
    due("by day, HOURS", x.arrive(1, 1), NONE);
    due("always", x.arrive(2, 0), 1);
    due("always, HOURS", x.arrive(2, 1), 7);
    due("stay", x.arrive(3, 0), 0);
    due("stay, HOURS", x.arrive(3, 1), NONE);
    x = of(STRONG + "goal 0 18;");
    for (int plan = 0; plan < 4; plan++) {
      due("there already", x.arrive(plan, 0), 1);
      due("there already, HOURS", x.arrive(plan, 1), 0);
    }
    due("nobody, HOURS", of("goal 0 18;").arrive(0, 1), NONE);
    due("there, but DOWN", of("one last 1 0;goal 0 18;").arrive(0, 1), NONE);
    bounds("arrive", 0, 3, (y, plan) -> y.arrive(plan, 0));
    bounds("arrive, what", 0, 1, (y, what) -> y.arrive(0, what));
    onlyAsks("arrive", y -> y.arrive(2, 1));
  }

  private static void best() {
    promise(22, "The PLAN (0 to 2) by which most arrive, of several that by which soonest, of several the first (what 0),"
        + " how many arrive (1). BAD.");
    bestIs("", 0, 0, "nobody");
    bestIs("one last 1 0;goal 0 6;", 0, 0, "all DOWN at GOAL");
    bestIs(STRONG + "goal 0 6;", 0, 1, "there already: of several the first");
    bestIs(STRONG + "goal 9 18;", 0, 1, "by night as soon as always: the first");
    bestIs(STRONG + "goal 4 6;", 1, 1, "by day as soon as always, sooner than by night: the first");
    // 2 hours by day make 4 miles, 2 by night 6 more; by night alone they would wait for 2 hours.
    bestIs(STRONG + STRONG + "goal 9 16;", 2, 2, "always is soonest");
    // Always the second is down in the 6th hour by day; by night he stays first, and both arrive.
    bestIs(STRONG + "one last 1 12;goal 9 12;", 0, 2, "most, though not soonest");
    bestIs("one last 1 1;goal 1 6;plan stay;", 0, 0, "none arrives by any");
    bounds("best", 0, 1, BottleFour::best);
    onlyAsks("best", y -> y.best(0));
  }

  private static void bestIs(String text, int plan, int howMany, String why) {
    due(why, of(text).best(0), plan);
    due(why + ": how many", of(text).best(1), howMany);
  }

  private static void late() {
    promise(23, "The most HOURS (0 to 72) that they can stay first so that, then by PLAN 2, k (1 to 4) or more arrive"
        + " (ARRIVING from then on).");
    // At 5 an hour's walk takes 1 of his 2; at 6 it would take 2.
    due("none", of("one last 1 2;goal 2 5;").late(1), 0);
    due("one", of("one last 1 2;goal 2 4;").late(1), 1);
    due("there already", of(STRONG + "goal 0 5;").late(1), 72);
    due("he could stay longer", of("one thirsty 1 20;bottle 60;goal 3 18;").late(1), 72);
    // 36 hours by day take 36 of what he and the bottle have; then an hour by night takes 1 of 2. With
    // 1 less he has to start with 5 at 14, to lose 4 in 2 hours of a mile each.
    due("just 72", of(STRONG + "bottle 18;goal 2 18;").late(1), 72);
    due("less by one CAP", of(STRONG + "bottle 17;goal 2 18;").late(1), 68);
    // At once he is down; at 4 there is dew.
    due("not at once, but later", of("one measured 1 1;dew 1;goal 2 3;").late(1), 2);
    // Both: till an hour by day would be walked. The first alone: till he has 8 on the second morning.
    BottleFour x = of(STRONG + "one last 1 3;goal 4 18;");
    due("2 of them", x.late(2), 10);
    due("1 of them", x.late(1), 36);
    due("4 of 4", of(STRONG.repeat(4) + "goal 0 5;").late(4), 72);
    due("by PLAN 2, whatever PLAN is", of("one last 1 2;goal 2 5;plan stay;").late(1), 0);
    // With 5 or less they make 36 miles a day: behind 72 hours 40 more are to go.
    due("ARRIVING from then on", of("one last 1 5;bottle 60;dew 9;goal 60 18;").late(1), 72);
    onlyAsks("late", y -> y.late(1));
    promise(23, "BAD; NONE: by none.");
    due("nobody", new BottleFour().late(1), NONE);
    due("nobody at GOAL", of("goal 0 0;").late(1), NONE);
    due("3 of 2", x.late(3), NONE);
    due("4 of 3 and one who is DOWN", of(STRONG.repeat(3) + "one last 1 0;goal 0 5;").late(4), NONE);
    due("too far", of("one last 1 1;goal 1 5;").late(1), NONE);
    bounds("late", 1, 4, BottleFour::late);
  }

  private static void least() {
    promise(24, "The least that THE BOTTLE (0 to 60) must have now so that by PLAN they come to GOAL and all who are not"
        + " DOWN now arrive.");
    due("0", of("one measured 1 6;goal 3 18;bottle 60;").least(), 0);
    due("1", of("one measured 1 1;goal 2 18;").least(), 1);
    due("2", of("one measured 1 1;goal 4 18;bottle 60;").least(), 2);
    due("who is DOWN now is not asked for", of("one measured 1 1;one sly 1 0;goal 2 18;").least(), 1);
    due("all who are not, not one alone", of(STRONG + "one measured 1 1;goal 2 18;").least(), 1);
    // Each drinks 1 an hour: 12 by day, then 2 miles an hour by night.
    String four = "one measured 1 1;".repeat(4);
    due("60: 15 HOURS", of(four + "goal 6 6;").least(), 60);
    due("what it has now is nothing to it", of(four + "goal 6 6;bottle 3;").least(), 60);
    due("there already", of(STRONG + "goal 0 6;bottle 9;").least(), 0);
    BottleFour x = of("one measured 1 1;goal 2 18;plan stay;");
    due("who is DOWN later is not DOWN now", x.ahead(96, 2) * 10 + x.plan(0) + x.least(), 3 + 1);
    due("nobody, at GOAL", of("goal 0 6;").least(), 0);
    onlyAsks("least", BottleFour::least);
    promise(24, "NONE: by none.");
    due("61 or more: 16 HOURS", of(four + "goal 8 6;").least(), NONE);
    due("by PLAN stay", of(STRONG + "goal 1 6;plan stay;").least(), NONE);
    due("nobody", new BottleFour().least(), NONE);
    due("all DOWN", of("one last 1 0;goal 1 6;").least(), NONE);
    due("GOAL is come to, but not by all", of(STRONG + "one last 3 5;goal 9 6;plan all;dry 0;well 1 1 1;").least(), NONE);
  }

  private static void alikeAndAlone() {
    promise(25, "How many arrive by PLAN, were all of a KIND. BAD.");
    // 4 hours of 2 miles. Measured, they drink 2 and 1; of the kind last the second takes 2 first.
    BottleFour x = of("one measured 1 3;one measured 1 4;goal 8 18;bottle 3;");
    due("all measured", x.alike(0), 2);
    due("all last", x.alike(3), 1);
    due("by PLAN stay", x.plan(3) + x.alike(0), 0);
    // Who is thirsty drinks all at once and makes 3 miles an hour for 4 hours, then 2 for 5; who is
    // measured makes 2 an hour for 9.
    for (String kind : new String[] {"measured", "thirsty"}) {
      x = of("one " + kind + " 1 5;goal 22 18;bottle 5;");
      due(kind + ", were he measured", x.alike(0), 0);
      due(kind + ", were he thirsty", x.alike(1), 1);
    }
    due("nobody", new BottleFour().alike(0), 0);
    due("who is DOWN does not arrive", of("one last 1 9;one last 1 0;goal 0 0;").alike(4), 1);
    bounds("alike", 0, 4, BottleFour::alike);
    onlyAsks("alike", y -> y.alike(1));
    promise(26, "Behind how many HOURS a ONE arrives by PLAN, were he alone there with so many CAPS (0 to 20) in THE"
        + " BOTTLE (in place of what it has).");
    // 12 hours of 2 miles, in each he drinks 1 and loses 1.
    x = of("one measured 1 1;one last 1 20;goal 24 18;bottle 60;");
    due("12 CAPS", x.alone(0, 12), 12);
    due("20 CAPS", x.alone(0, 20), 12);
    due("the other: 3 miles an hour", x.alone(1, 0), 8);
    due("there already", of(STRONG + "goal 0 0;").alone(0, 0), 0);
    due("of his KIND", of("one measured 1 9;one thirsty 1 5;goal 22 18;").alone(1, 5), 9);
    due("of his KIND, not of another's", of("one thirsty 1 9;one measured 1 5;goal 22 18;").alone(1, 5), NONE);
    due("of his SIZE", of("one last 3 9;one last 1 2;goal 2 18;").alone(1, 0), 1);
    due("of his SIZE, not of another's", of("one last 1 9;one last 3 2;goal 2 18;").alone(1, 0), NONE);
    x = of("one last 1 20;one last 1 5;goal 6 18;");
    due("nobody makes him slow", x.alone(0, 0), 2);
    due("he is slow by himself", x.alone(1, 0), 3);
    due("a giver has nobody to give to", of("one last 1 1;one giver 1 2;goal 4 18;").alone(1, 1), 2);
    onlyAsks("alone", y -> y.alone(0, 20));
    promise(26, "BAD; STATE: he is DOWN; NONE: he does not.");
    x = of("one measured 1 1;one last 1 0;goal 24 18;bottle 60;");
    due("11 CAPS", x.alone(0, 11), NONE);
    due("0 CAPS", x.alone(0, 0), NONE);
    due("by PLAN stay", of(STRONG + "plan stay;").alone(0, 20), NONE);
    due("he is DOWN", x.alone(1, 20), STATE);
    due("he is DOWN at GOAL", of("one last 1 0;goal 0 0;").alone(0, 0), STATE);
    bounds("alone", 0, 3, (y, p) -> y.alone(p, 5));
    bounds("alone, caps", 0, 20, (y, caps) -> y.alone(0, caps));
    refused("alone of who is DOWN", y -> y.alone(3, 5), STATE);
  }

  // ---- odds

  private static void luck() {
    promise(27, "WELLS being WET by ODDS, by themselves (those that are not WET now are not): that k (1 to 4) or more"
        + " arrive by a PLAN: 0, 1. BAD.");
    // Without a well at 1 or 2 he is down behind 2 hours; with one he drinks what he loses.
    String thirst = "one measured 1 2;goal 20 18;";
    luckIs(thirst, 1, 0, 1, "no WELL");
    luckIs(thirst + "well 2 0 20;", 1, 0, 1, "ODDS 0");
    luckIs(thirst + "well 2 1 20;", 1, 1, 10, "ODDS 1");
    luckIs(thirst + "well 2 10 20;", 1, 1, 1, "ODDS 10");
    luckIs(thirst + "well 2 10 20;dry 0;", 1, 0, 1, "not WET now");
    luckIs(thirst + "well 2 5 20;well 1 5 20;", 1, 3, 4, "one of two, by themselves");
    luckIs(thirst + "well 2 5 20;well 1 5 20;dry 0;", 1, 1, 2, "one of two, the other is not WET");
    luckIs(thirst + "well 2 1 20;well 2 1 20;well 2 1 20;", 1, 271, 1000, "one of three");
    luckIs(thirst + "well 40 3 20;well 2 5 20;", 1, 1, 2, "a WELL that is not come to");
    luckIs(STRONG.repeat(4) + "goal 3 18;", 4, 1, 1, "4 of 4");
    luckIs(STRONG.repeat(3) + "one last 1 0;goal 3 18;", 4, 0, 1, "4 of 3 and one who is DOWN");
    luckIs(STRONG.repeat(3) + "one last 1 0;goal 3 18;", 3, 1, 1, "3 of 3");
    luckIs(STRONG.repeat(3) + "one last 1 0;goal 3 18;", 1, 1, 1, "1 or more of 3");
    BottleFour x = of(thirst + "well 2 4 20;plan stay;");
    fraction("by PLAN 3", x.luck(1, 3, 0), x.luck(1, 3, 1), 0, 1);
    fraction("by PLAN 0, whatever PLAN is", x.luck(1, 0, 0), x.luck(1, 0, 1), 2, 5);
    bounds("luck", 1, 4, (y, k) -> y.luck(k, 0, 0));
    bounds("luck, plan", 0, 3, (y, plan) -> y.luck(1, plan, 1));
    bounds("luck, what", 0, 1, (y, what) -> y.luck(1, 0, what));
    onlyAsks("luck", y -> y.luck(1, 2, 0));
  }

  private static void luckIs(String text, int k, long a, long b, String why) {
    BottleFour x = of(text);
    fraction("luck, " + why, x.luck(k, 0, 0), x.luck(k, 0, 1), a, b);
  }

  private static void mean() {
    promise(28, "WELLS likewise: the mean of how many arrive by a PLAN: 0, 1. BAD.");
    String thirst = "one measured 1 2;goal 20 18;";
    meanIs("", 0, 1, "nobody");
    meanIs("goal 0 0;", 0, 1, "nobody at GOAL");
    meanIs(thirst, 0, 1, "no WELL");
    meanIs(thirst + "well 2 0 20;", 0, 1, "ODDS 0");
    meanIs(thirst + "well 2 10 20;", 1, 1, "ODDS 10");
    meanIs(thirst + "well 2 10 20;dry 0;", 0, 1, "not WET now");
    meanIs(thirst + STRONG + "well 2 4 20;", 7, 5, "one by a WELL, one for sure");
    meanIs(thirst + "well 2 5 20;well 1 5 20;", 3, 4, "one of two, by themselves");
    meanIs(thirst + "well 2 1 20;well 2 1 20;well 2 1 20;", 271, 1000, "one of three");
    meanIs(STRONG.repeat(4) + "goal 3 18;well 9 3 1;", 4, 1, "4 for sure");
    bounds("mean", 0, 3, (y, plan) -> y.mean(plan, 1));
    bounds("mean, what", 0, 1, (y, what) -> y.mean(0, what));
    onlyAsks("mean", y -> y.mean(2, 0));
  }

  private static void meanIs(String text, long a, long b, String why) {
    BottleFour x = of(text);
    fraction("mean, " + why, x.mean(0, 0), x.mean(0, 1), a, b);
  }

  private static void stay() {
    promise(29, "They stay n HOURS (0 to 96): in each HOUR that is 12 (modulo 24) when it begins, while not all are DOWN,"
        + " they are found by FOUND, by itself: that they are: 0, 1. BAD.");
    String safe = "one thirsty 1 20;bottle 60;found 2;plan all;goal 60 ";
    stayIs(safe + "12;", 0, 0, 1, "no HOUR");
    stayIs(safe + "12;", 1, 1, 5, "the HOUR that begins at 12");
    stayIs(safe + "11;", 1, 0, 1, "the HOUR that ends at 12");
    stayIs(safe + "11;", 2, 1, 5, "the next");
    stayIs(safe + "13;", 23, 0, 1, "from 13 to 36");
    stayIs(safe + "13;", 24, 1, 5, "36 is 12 of the next day");
    stayIs(safe + "12;", 24, 1, 5, "from 12 to 36");
    stayIs(safe + "12;", 25, 9, 25, "twice, by itself");
    stayIs(safe + "12;", 96, 369, 625, "4 times in 96");
    stayIs(safe + "13;", 95, 61, 125, "3 times in 95");
    stayIs(safe + "13;", 96, 369, 625, "4 times in 96 from 13 on");
    stayIs("one last 1 9;goal 9 12;", 1, 0, 1, "FOUND 0");
    stayIs("one last 1 9;goal 9 12;found 10;", 1, 1, 1, "FOUND 10");
    stayIs("one last 1 9;goal 9 13;found 10;", 1, 0, 1, "FOUND 10, but no chance");
    stayIs("goal 9 12;found 10;", 96, 0, 1, "nobody");
    stayIs("one last 1 0;one last 1 0;goal 9 12;found 10;", 96, 0, 1, "all DOWN");
    stayIs("one last 1 0;one last 1 1;goal 9 12;found 5;", 96, 1, 2, "not all DOWN when it begins");
    stayIs("one last 1 6;goal 9 6;found 5;", 96, 0, 1, "DOWN at 12");
    stayIs("one last 1 7;goal 9 6;found 5;", 96, 1, 2, "DOWN at 13");
    stayIs("one last 1 7;goal 9 6;found 5;plan all;", 96, 1, 2, "they stay, whatever PLAN is");
    stayIs("one last 1 7;goal 0 12;found 5;", 1, 1, 2, "at GOAL they are not DOWN");
    bounds("stay", 0, 96, (y, n) -> y.stay(n, 1));
    bounds("stay, what", 0, 1, (y, what) -> y.stay(50, what));
    onlyAsks("stay", y -> y.stay(96, 0));
  }

  private static void stayIs(String text, int n, long a, long b, String why) {
    BottleFour x = of(text);
    fraction("stay " + n + ", " + why, x.stay(n, 0), x.stay(n, 1), a, b);
  }

  // ---- who drinks how

  private static void seeAndForget() {
    promise(30, "SEEN: behind n HOURS (1 to 24) so many CAPS (0 to 60): how many are.");
    BottleFour x = of("one measured 1 5;bottle 60;plan stay;");
    due("nothing", x.count(0), 0);
    due("behind 1, 60", x.see(1, 60), 1);
    due("last or nobody drinks nothing", x.kinds(0), 8);
    x.forget(0);
    due("behind 24, 0", x.see(24, 0), 1);
    due("nobody drinks so much", x.kinds(0), 0);
    due("the same again", x.see(24, 0), 2);
    bounds("see", 1, 24, (y, n) -> y.see(n, 5));
    bounds("see, caps", 0, 60, (y, caps) -> y.see(5, caps));
    promise(30, "BAD; FULL.");
    for (int i = 3; i <= 6; i++) due("the " + i + "th", x.see(i, i), i);
    due("the 7th", x.see(1, 0), FULL);
    due("BAD first", x.see(0, 0), BAD);
    due("6 still", x.count(0), 6);
    due("room then", x.forget(5) * 10 + x.see(1, 1), 66);
    Call six = y -> y.see(1, 25) + y.see(2, 24) + y.see(1, 25) + y.see(2, 24);
    refused("the 7th", six, y -> y.see(1, 60), FULL);
    promise(31, "SEEN are the first n alone: how many there were. BAD.");
    x = of("one last 1 9;bottle 9;plan stay;");
    due("none of none", x.forget(0), 0);
    due("1 of none", x.forget(1), BAD);
    x.see(1, 9);
    x.see(1, 8);
    due("none fits both", x.fits(0), 0);
    due("2 of 2", x.forget(2), 2);
    due("3 of 2", x.forget(3), BAD);
    due("both are there still", x.fits(0), 0);
    due("the first alone", x.forget(1), 2);
    due("it is the first", x.fits(1), 3);
    due("0 of 1", x.forget(0), 1);
    due("nothing is SEEN", x.fits(0) * 10 + x.count(0), 50);
    for (int i = 0; i < 6; i++) x.see(1, 9);
    due("7 of 6", x.forget(7), BAD);
    due("6 of 6", x.forget(6), 6);
    bounds("forget, of 2", 0, 2, BottleFour::forget);
  }

  private static void fitsAndKinds() {
    promise(32, "KINDS of all (each 0 to 4) that FIT: how many (what 0), the first as a number to the base 5, ONE 0 the"
        + " highest figure (1).");
    int[] all = {1, 5, 25, 125, 625};
    for (int people = 0; people <= 4; people++) {
      BottleFour x = of(ONE.repeat(people));
      due("nothing is SEEN, people " + people, x.fits(0), all[people]);
      due("the first of all, people " + people, x.fits(1), 0);
    }
    // With 9 only the kind last drinks nothing; with 10 who is thirsty, too.
    BottleFour x = of("one sly 1 9;one sly 1 9;one sly 1 9;one sly 1 9;bottle 60;plan stay;");
    x.see(1, 60);
    due("last, last, last, last alone", x.fits(0), 1);
    due("as a number to the base 5", x.fits(1), 3 * 125 + 3 * 25 + 3 * 5 + 3);
    x = of("one sly 1 10;one sly 1 9;one sly 1 9;one sly 1 9;bottle 60;plan stay;");
    x.see(1, 60);
    due("ONE 0 thirsty or last", x.fits(0), 2);
    due("ONE 0 is the highest figure", x.fits(1), 125 + 3 * 25 + 3 * 5 + 3);
    x = of("one sly 1 9;one sly 1 9;one sly 1 9;one sly 1 10;bottle 60;plan stay;");
    x.see(1, 60);
    due("ONE 3 is the lowest figure", x.fits(1), 3 * 125 + 3 * 25 + 3 * 5 + 1);
    // With 20 he who is measured, sly or a giver drinks nothing either.
    x = of("one last 1 20;bottle 1;plan stay;");
    x.see(1, 1);
    due("each of 0 to 4", x.fits(0), 5);
    x.forget(0);
    x.see(1, 0);
    onlyAsks("fits", y -> y.fits(0));
    promise(32, "BAD; NONE (1): there is none.");
    due("none", x.fits(0), 0);
    due("no first", x.fits(1), NONE);
    x = new BottleFour();
    x.see(24, 0);
    due("nobody, as SEEN", x.fits(0) * 10 + x.fits(1), 10);
    x.see(1, 1);
    due("nobody, not as SEEN", x.fits(0), 0);
    due("nobody, no first", x.fits(1), NONE);
    bounds("fits", 0, 1, BottleFour::fits);
    promise(33, "KINDS that a ONE can be of by those that FIT (bits). BAD.");
    x = of("one last 1 9;one last 1 9;bottle 9;plan stay;");
    due("all KINDS", x.kinds(0) * 100 + x.kinds(1), 3131);
    x.see(1, 7);
    // Both drink 1; or the first, who pours, is sly and takes 2 and the other, who is last, none.
    due("of ONE 0", x.kinds(0), 1 + 2 + 4 + 16);
    due("of ONE 1", x.kinds(1), 31);
    x.see(1, 8);
    due("none", x.kinds(0), 0);
    due("of nobody", new BottleFour().kinds(0), BAD);
    bounds("kinds", 0, 3, BottleFour::kinds);
    onlyAsks("kinds", y -> y.kinds(0));
  }

  // ---- by a seed

  private static void drift() {
    promise(34, "By itself, n HOURS (1 to 60) by a seed: ahead of each the seed becomes seed times 1103515245 and 12345;"
        + " they walk in it (whatever PLAN is), if bits 16 to 30 of it modulo 3 are not 0: MILE then (what 0), CAPS in THE"
        + " BOTTLE (1), how many are not DOWN (2). BAD.");
    // In 32 bits seed 0 becomes 12345, 3554416254, 2802067423, ..: bits 16 to 30 modulo 3 are 0, 0, 1, 1, 0, 1, 1, 1.
    miles(0, 0, 0, 3, 6, 6, 9, 12, 15);
    miles(1, 3, 6, 6, 9, 12, 15, 15, 15);
    miles(-1, 3, 6, 9, 9, 12, 15, 18, 21);
    // Bit 31 of the seed moves bit 31 alone: the greatest and the least are as -1 and as 0.
    miles(MAX, 3, 6, 9, 9, 12, 15, 18, 21);
    miles(MIN, 0, 0, 3, 6, 6, 9, 12, 15);
    miles(-20, 0, 3, 3, 3, 6, 9, 12, 15);
    miles(-8, 0, 0, 0, 3, 6, 9, 12, 15);
    miles(-12, 3, 6, 9, 9, 12, 12, 12, 15);
    BottleFour x = of("one last 1 5;well 20 1 20;well 40 1 20;bottle 60;goal 60 17;dew 9;plan stay;");
    due("59: MILE", x.drift(1, 59, 0), 57);
    due("59: CAPS", x.drift(1, 59, 1), 40);
    due("60: MILE", x.drift(1, 60, 0), 59);
    due("60: CAPS, with the dew of its HOUR", x.drift(1, 60, 1), 49);
    due("60: not DOWN", x.drift(1, 60, 2), 1);
    due("nobody: MILE", new BottleFour().drift(1, 60, 0), 0);
    due("at GOAL: not DOWN", of("one last 3 1;one sly 1 0;goal 0 12;").drift(1, 60, 2), 1);
    due("DOWN by day", of("one last 3 1;goal 9 12;").drift(0, 1, 2), 0);
    bounds("drift", 1, 60, (y, n) -> y.drift(1, n, 0));
    bounds("drift, what", 0, 2, (y, what) -> y.drift(1, 5, what));
    onlyAsks("drift", y -> y.drift(1, 60, 0));
  }

  private static void miles(int seed, int... miles) {
    for (int plan : new int[] {0, 3}) {
      BottleFour x = of(STRONG + "goal 60 18;bottle 4;");
      x.plan(plan);
      for (int n = 1; n <= miles.length; n++) due("seed " + seed + ", HOURS " + n, x.drift(seed, n, 0), miles[n - 1]);
    }
  }

  // ---- images, sheets

  private static void keepAndBack() {
    promise(35, "IMAGE k (0, 1) is KINDS, LEVELS, MILE, HOUR, THE BOTTLE, PLAN, CLOTHS, FOUND, which WELLS are WET, their"
        + " ODDS: whether there was one (1, 0). BAD.");
    BottleFour x = of("one last 1 20;one sly 2 9;bottle 30;goal 40 18;well 9 3 12;well 1 2 3;dew 1;found 2;plan all;");
    due("none was", x.keep(1), 0);
    due("one was", x.keep(1), 1);
    due("of the other none was", x.keep(0), 0);
    String kept = camp(x);
    x.go(3);
    x.teach(0, 4);
    x.drink(0, 1);
    x.fill(7);
    x.plan(3);
    x.lay(0, 9);
    x.lay(1, 10);
    x.wet(0, false);
    x.odd(0, 10);
    x.wet(1, true);
    x.odd(1, 0);
    String later = camp(x);
    due("one was", x.keep(0), 1);
    due("IMAGE 1: HOUR", x.back(1), 18);
    same("IMAGE 1: all", camp(x), kept);
    due("IMAGE 0: HOUR", x.back(0), 21);
    same("IMAGE 0: all", camp(x), later);
    due("of nobody", new BottleFour().keep(0), 0);
    bounds("keep", 0, 1, BottleFour::keep);
    promise(36, "All is as IMAGE k: HOUR.");
    x.back(1);
    x.go(5);
    due("the IMAGE is there still", x.back(1), 18);
    same("and as it was", camp(x), kept);
    for (int i = 0; i < 17; i++) x.go(60);
    due("HOUR beyond 23", x.keep(0) * 1000 + x.back(0), 1978);
    due("HOUR of the other", x.back(1), 18);
    due("HOURS go again", x.go(60) >= 0 ? x.rule(4) : BAD, 78);
    x = rich();
    due("SEEN, IMAGES and THE TAPE are none of it", x.back(0) * 1000 + x.count(0) * 100 + x.count(1) * 10 + x.torn(), 18221);
    due("THE TAPE stays", x.count(2), 15);
    promise(36, "BAD; STATE: there is none.");
    x = new BottleFour();
    due("none", x.back(0), STATE);
    x.keep(1);
    due("none of the other", x.back(0), STATE);
    due("there is one", x.back(1), 18);
    x.text();
    due("none behind a text", x.back(1), STATE);
    due("keep behind a text", x.keep(1), 0);
    bounds("back", 0, 1, BottleFour::back);
    BottleFour y = of("bottle 9;");
    y.keep(0);
    y.fill(5);
    due("STATE", y.back(1), STATE);
    due("nothing is changed by it", y.rule(5), 5);
  }

  private static void sheet() {
    promise(37, "A SHEET is a new row of CELLS 0: 1.");
    BottleFour x = of("one sly 1 1;bottle 20;");
    due("no CELLS", x.sheet(0, 0, 0), 1);
    due("none", x.count(3), 0);
    due("40 CELLS", x.sheet(0, 0, 40), 1);
    due("40", x.count(3), 40);
    due("all are 0: 20 drinks of nothing", x.read(0, 0, 0, 20), 20);
    due("LEVEL still", x.one(0, 2), 1);
    for (int i = 0; i < 40; i++) x.put(0, i, i % 2 == 0 ? 0 : 1);
    due("a new row", x.sheet(0, 2, 40), 1);
    due("its CELLS are 0", x.read(0, 2, 0, 20), 20);
    due("LEVEL still", x.one(0, 2), 1);
    for (int i = 0; i < 40; i++) x.put(0, i, 9);
    x.sheet(0, 1, 40);
    due("its CELLS are 0, the first one, too", x.read(0, 1, 0, 20), 20);
    x.sheet(0, 2, 40);
    x.put(0, 39, 1);
    x.sheet(0, 2, 2);
    x.sheet(0, 2, 40);
    due("its CELLS are 0 beyond a short one's, too", x.read(0, 2, 0, 20), 20);
    due("LEVEL still", x.one(0, 2), 1);
    due("another SHEET is nothing still", x.put(1, 0, 0), -11);
    promise(37, "BAD: also n above 40; -10 - 4.");
    due("41", x.sheet(0, 0, 41), BAD);
    due("MAX", x.sheet(0, 0, MAX), BAD);
    due("-1", x.sheet(0, 0, -1), -14);
    due("MIN", x.sheet(0, 0, MIN), -14);
    bounds("sheet", 0, 3, (y, k) -> y.sheet(k, 0, 1));
    bounds("sheet, lane", 0, 2, (y, lane) -> y.sheet(0, lane, 1));
    for (int k = 0; k < 4; k++) {
      int row = k;
      refused("41 CELLS of " + k, y -> y.sheet(row, 0, 41), BAD);
      refused("-1 CELLS of " + k, y -> y.sheet(row, 2, -1), -14);
      refused("lane 3 of " + k, y -> y.sheet(row, 3, 2), BAD);
    }
  }

  private static void put() {
    promise(38, "CELL i of a SHEET becomes v (its lowest bits): 1.");
    int[] ofByte = {-129, 127, -128, 0, 127, 128, 255, 256, 257, MIN, MAX};
    int[] asByte = {127, 127, -128, 0, 127, -128, -1, 0, 1, 0, -1};
    for (int i = 0; i < ofByte.length; i++) cellIs(0, ofByte[i], asByte[i]);
    int[] ofShort = {-32769, -32768, 32767, 32768, 65535, 65536, 65537, 256, MIN, MAX};
    int[] asShort = {32767, -32768, 32767, -32768, -1, 0, 1, 256, 0, -1};
    for (int i = 0; i < ofShort.length; i++) cellIs(1, ofShort[i], asShort[i]);
    for (int v : new int[] {MIN, -1, 0, 1, 20, 256, 65536, MAX}) cellIs(2, v, v);
    promise(38, "BAD: k; -10 less the FAULT: NULL, INDEX.");
    BottleFour x = new BottleFour();
    for (int i : new int[] {0, -1, 40, MIN, MAX}) due("NULL, CELL " + i, x.put(0, i, 0), -11);
    x.sheet(0, 0, 0);
    due("CELL 0 of none", x.put(0, 0, 0), -12);
    x.sheet(0, 1, 3);
    due("CELL 2 of 3", x.put(0, 2, 0), 1);
    for (int i : new int[] {-1, 3, MIN, MAX}) due("INDEX, CELL " + i, x.put(0, i, 0), -12);
    due("torn is read's alone", x.torn(), 0);
    bounds("put", 0, 3, (y, k) -> y.put(k, 0, 0));
    refused("CELL 4 of 4", y -> y.put(0, 4, 9), -12);
    refused("CELL -1", y -> y.put(1, -1, 9), -12);
    refused("CELL of nothing", y -> y.put(3, 0, 9), -11);
  }

  /** As a ONE's number, and as CAPS, the cell that was put shows what it holds: 0 and 1, or else. */
  private static void cellIs(int lane, int put, int held) {
    BottleFour x = of("one sly 1 1;one sly 1 1;bottle 60;");
    x.sheet(3, lane, 2);
    due("put " + put + " in lane " + lane, x.put(3, 1, put), 1);
    int caps = held >= 0 && held <= 19 ? held : 0;
    due("CAPS " + put + " in lane " + lane, x.read(3, lane, 0, 1), held >= 0 && held <= 19 ? 1 : -20);
    due("LEVEL by CAPS " + put + " in lane " + lane, x.one(0, 2), 1 + caps);
    x.put(3, 0, put);
    x.put(3, 1, 0);
    due("ONE " + put + " in lane " + lane, x.read(3, lane, 0, 1), held == 0 || held == 1 ? 1 : -20);
  }

  /** An object of two, one who is DOWN, 9 CAPS; SHEET 1, of a lane, has these cells. */
  private static BottleFour withSheet(int lane, int... cells) {
    BottleFour x = of("one sly 1 5;one last 2 19;one sly 1 0;bottle 9;");
    x.sheet(1, lane, cells.length);
    for (int i = 0; i < cells.length; i++) x.put(1, i, cells[i]);
    return x;
  }

  private static void read() {
    promise(39, "n (0 to 20) drinks (ONE, CAPS) are read of a SHEET taken as of a lane, two CELLS each from CELL f on, one"
        + " behind another as by drink(): how many were.");
    for (int lane = 0; lane < 3; lane++) {
      BottleFour x = withSheet(lane, 0, 3, 1, 1, 0, 2);
      due("no drink", x.read(1, lane, 0, 0), 0);
      same("nobody drank", levels(x) + " " + x.rule(5), "levels 5 19 0 9");
      due("one", x.read(1, lane, 0, 1), 1);
      same("he drank", levels(x) + " " + x.rule(5), "levels 8 19 0 6");
      due("two from CELL 2 on", x.read(1, lane, 2, 2), 2);
      same("they drank", levels(x) + " " + x.rule(5), "levels 10 20 0 3");
      due("from CELL 1 on: ONE 3", x.read(1, lane, 1, 1), -20);
      due("from CELL 3 on: ONE 1, no CAPS", x.read(1, lane, 3, 1), 1);
    }
    BottleFour x = withSheet(0, new int[40]);
    due("20 drinks of 40 CELLS", x.read(1, 0, 0, 20), 20);
    due("no FAULT", x.torn(), 0);
    promise(39, "What the machine refuses: those that were whole ahead were (its FAULT is asked by torn()).");
    x = withSheet(0, 0, 1, 0, 2, 0);
    due("two whole, then half of one", x.read(1, 0, 0, 20), 2);
    same("they were", levels(x) + " " + x.rule(5) + " " + x.torn(), "levels 8 19 0 6 2");
    x = withSheet(0, 0, 1, 0, 2);
    due("two whole, then nothing", x.read(1, 0, 0, 3), 2);
    same("they were", levels(x) + " " + x.rule(5) + " " + x.torn(), "levels 8 19 0 6 2");
    for (int f : new int[] {-1, -2, 3, 4, 5, MIN, MIN + 1, MAX - 1, MAX}) {
      x = withSheet(0, 0, 1, 0, 2);
      due("from CELL " + f, x.read(1, 0, f, 20), 0);
      same("none was", levels(x) + " " + x.rule(5) + " " + x.torn(), "levels 5 19 0 9 2");
    }
    x = withSheet(0, 0, 1, 9);
    due("half of one, of no such ONE", x.read(1, 0, 2, 1), 0);
    due("INDEX", x.torn(), 2);
    due("of no CELLS", withSheet(2).read(1, 2, 0, 1), 0);
    x = withSheet(1, 0, 1);
    due("another lane", x.read(1, 0, 0, 1), 0);
    due("CAST", x.torn(), 3);
    due("another lane, beyond its end", x.read(1, 2, 9, 1), 0);
    due("CAST", x.torn(), 3);
    due("nothing", x.read(2, 1, 9, 20), 0);
    due("NULL", x.torn(), 1);
    same("none was", levels(x) + " " + x.rule(5), "levels 5 19 0 9");
    readIsRefused();
  }

  private static void readIsRefused() {
    promise(39, "BAD: k, lane, n; -20 less i: the i-th, whole, is refused by drink() (in whichever way): then none was;"
        + " the first met.");
    bounds("read", 0, 3, (y, k) -> y.read(k, 0, 0, 0));
    bounds("read, lane", 0, 2, (y, lane) -> y.read(0, lane, 0, 0));
    bounds("read, n", 0, 20, (y, n) -> y.read(3, 0, 0, n));
    int[][] refusals = {{-1, 0}, {3, 0}, {0, -1}, {0, 21}, {2, 0}, {0, 10}, {1, 2}};
    for (int[] r : refusals) {
      BottleFour x = withSheet(0, r);
      due("ONE " + r[0] + ", CAPS " + r[1], x.read(1, 0, 0, 1), -20);
      x = withSheet(0, 0, 1, 1, 1, r[0], r[1], 0, 1);
      due("the third: ONE " + r[0] + ", CAPS " + r[1], x.read(1, 0, 0, 4), -22);
      same("then none was", levels(x) + " " + x.rule(5) + " " + x.torn(), "levels 5 19 0 9 0");
      due("the two ahead of it", x.read(1, 0, 0, 2), 2);
    }
    int[] cells = new int[40];
    cells[38] = 9;
    due("the last of 20", withSheet(2, cells).read(1, 2, 0, 20), -39);
    due("behind 19", withSheet(2, cells).read(1, 2, 0, 19), 19);
    due("THE BOTTLE has not so many any more", withSheet(0, 0, 5, 0, 5).read(1, 0, 0, 2), -21);
    due("the first of two that are refused", withSheet(0, 9, 9, 8, 8).read(1, 0, 0, 2), -20);
    due("refused, ahead of the end", withSheet(0, 0, 1, 9, 9).read(1, 0, 0, 3), -21);
    // In the rich state SHEET 0 has the drinks (0, 1) and (1, 2).
    refused("read of who is DOWN", y -> y.put(0, 2, 3), y -> y.read(0, 0, 0, 2), -21);
    refused("read of an empty bottle", y -> y.fill(2), y -> y.read(0, 0, 0, 2), -21);
    refused("read above 20", y -> y.put(0, 3, 20), y -> y.read(0, 0, 0, 2), -21);
  }

  private static void torn() {
    promise(40, "The FAULT of the latest read() that came to an end; 0.");
    BottleFour x = withSheet(1, 0, 1, 9, 9);
    due("no read yet", x.torn(), 0);
    due("NULL", x.read(0, 0, 0, 1) + x.torn(), 1);
    due("BAD comes to no end", x.read(1, 1, 0, 21), BAD);
    due("NULL still", x.torn(), 1);
    due("refused by drink()", x.read(1, 1, 0, 2), -21);
    due("NULL still", x.torn(), 1);
    due("CAST", x.read(1, 2, 0, 1) + x.torn(), 3);
    due("put's FAULT is none of it", x.put(1, 9, 0), -12);
    due("sheet's FAULT is none of it", x.sheet(1, 1, -1), -14);
    due("CAST still", x.torn(), 3);
    due("INDEX", x.read(1, 1, 4, 1) + x.torn(), 2);
    due("whole", x.read(1, 1, 0, 1), 1);
    due("0", x.torn(), 0);
    due("INDEX behind a whole one", x.put(1, 2, 0) + x.put(1, 3, 0) + x.read(1, 1, 0, 3), 4);
    due("INDEX", x.torn(), 2);
    due("no drink", x.read(1, 1, 0, 0), 0);
    due("0", x.torn(), 0);
    x.read(0, 0, 0, 1);
    due("a text leaves it", x.text() + x.torn(), 1);
  }

  private static void count() {
    promise(41, "How many: 0 SEEN, 1 IMAGES, 2 bytes on THE TAPE, 3 CELLS of SHEET 0 (NONE: nothing), 4 who are not DOWN,"
        + " 5 all LEVELS, 6 WELLS that are WET. BAD.");
    same("nothing", counts(new BottleFour()), "counts 0 0 0 -4 0 0 0");
    BottleFour x = of("one sly 1 20;".repeat(4) + WELL + WELL + WELL);
    for (int i = 0; i < 6; i++) x.see(1, 1);
    x.keep(0);
    x.keep(1);
    for (int i = 0; i < 160; i++) x.feed(' ');
    x.sheet(0, 2, 40);
    same("as many as may be", counts(x), "counts 6 2 160 40 4 80 3");
    x = of("one sly 1 0;one sly 1 1;" + WELL + WELL + "dry 0;");
    x.see(1, 1);
    x.keep(1);
    x.feed(0);
    x.sheet(0, 0, 0);
    x.sheet(1, 0, 9);
    same("some", counts(x), "counts 1 1 1 0 1 1 1");
    bounds("count", 0, 6, BottleFour::count);
  }

  public static void main(String[] args) {
    aNewObject();
    feed();
    end();
    text();
    fault();
    ruleOneWell();
    poursAndLoses();
    teach();
    drink();
    fillPlanWetOddLay();
    go();
    ahead();
    down();
    arrive();
    best();
    late();
    least();
    alikeAndAlone();
    luck();
    mean();
    stay();
    seeAndForget();
    fitsAndKinds();
    drift();
    keepAndBack();
    sheet();
    put();
    read();
    torn();
    count();
    for (int number = 1; number <= 41; number++) allIsTestedOf("Promise " + number);
    finish("the boundaries of the promises hold");
  }
}

/** For each promise of the document at least one test, with answers worked out by hand. */
public final class BottleFourPromises extends Checks {
  /** All that a call that is refused must leave as it was. */
  private static String all(BottleFour x) {
    return camp(x) + "; " + counts(x) + "; torn " + x.torn();
  }

  private static void unchanged(String call, BottleFour x, String before) {
    same(call, all(x), before);
  }

  private static void promise1New() {
    BottleFour x = new BottleFour();
    int[] rules = {0, 0, 20, 0, 18, 0, 0, 0, 0};
    for (int what = 0; what <= 8; what++) due("new rule " + what, x.rule(what), rules[what]);
    int[] counts = {0, 0, 0, NONE, 0, 0, 0};
    for (int what = 0; what <= 6; what++) due("new count " + what, x.count(what), counts[what]);
    for (int k = 0; k < 4; k++) due("new put " + k, x.put(k, 0, 0), -11);
    due("new fault", x.fault(), 0);
    due("new torn", x.torn(), 0);
    due("new back 0", x.back(0), STATE);
    due("new one", x.one(0, 0), BAD);
    due("new well", x.well(0, 0), BAD);
  }

  private static void promise2Feed() {
    BottleFour x = new BottleFour();
    due("feed -1", x.feed(-1), BAD);
    due("feed 128", x.feed(128), BAD);
    due("feed MIN", x.feed(MIN), BAD);
    for (int i = 1; i <= 160; i++) due("feed " + i, x.feed(i % 128), i);
    due("feed the 161st", x.feed(0), FULL);
    due("feed BAD before FULL", x.feed(128), BAD);
    due("count 2 when full", x.count(2), 160);
  }

  private static void promise3End() {
    BottleFour x = new BottleFour();
    feedAll(x, "bottle 7;x");
    due("end -1", x.end(-1), BAD);
    due("end 11", x.end(11), BAD);
    due("end 10", x.end(10), 10);
    due("end 9", x.end(9), 10);
    due("count 2 then", x.count(2), 9);
    due("text then", x.text(), 1);
    due("rule 5 then", x.rule(5), 7);
    due("end 0 of nothing", x.end(0), 0);
    due("end 1 of nothing", x.end(1), BAD);
  }

  private static void promise4Text() {
    taken("", 0);
    taken("   ", 0);
    taken("bottle9;", 1);
    taken("  one  sly1 05 ; dry 0;well 1 0 1 ;", 3);
    BottleFour x = of("dry 1;one giver 3 20;well 9 0 1;well 60 10 20;bottle 60;goal 60 23;plan stay;dew 9;found 10;");
    int[] rules = {1, 2, 60, 0, 23, 60, 3, 9, 10};
    for (int what = 0; what <= 8; what++) due("told rule " + what, x.rule(what), rules[what]);
    due("the well told dry", x.well(1, 3), 0);
    due("the well not told dry", x.well(0, 3), 1);
    x.see(1, 1);
    x.keep(0);
    x.sheet(0, 0, 3);
    String before = all(x);
    feedAll(x, "bottle 1;goal 1 24;");
    due("a fault behind a line", x.text(), -26);
    due("its fault", x.fault(), 3);
    due("the tape is empty then", x.count(2), 0);
    unchanged("text that is refused", x, before);
    due("the image stays", x.back(0), 23);
    due("an empty text is taken", x.text(), 0);
    due("its fault then", x.fault(), 0);
    int[] fresh = {0, 0, 20, 0, 18, 0, 0, 0, 0};
    for (int what = 0; what <= 8; what++) due("fresh rule " + what, x.rule(what), fresh[what]);
    due("nothing is seen then", x.count(0), 0);
    due("no image is then", x.count(1), 0);
    due("sheets stay", x.count(3), 3);
  }

  private static void promise5Fault() {
    faulty("one sly 1 123;", 1, 10);
    faulty("bottle 1;\n", 1, 9);
    faulty("One sly 1 1;", 1, 0);
    faulty("bottle 1,", 1, 8);
    faulty("123", 1, 0);
    faulty("bottle -1;", 1, 7);
    faulty("bottle", 2, 6);
    faulty("bottle  ", 2, 8);
    faulty("bottle 1 ", 2, 9);
    faulty("bottle 1 2;", 2, 9);
    faulty("bottle sly;", 2, 7);
    faulty(";", 2, 0);
    faulty("12;", 2, 0);
    faulty("onesly 1 1;", 2, 0);
    faulty("one 1 1 1;", 2, 4);
    faulty("one night 1 1;", 2, 4);
    faulty("plan sly;", 2, 5);
    faulty("plan 1;", 2, 5);
    faulty("plan", 2, 4);
    faulty("bottles 1;", 2, 0);
    faulty("bottl 1;", 2, 0);
    faulty("one sly 1 1 one", 2, 12);
    faulty("bottle 61 #", 3, 7);
    faulty("goal 61 24;", 3, 5);
    faulty("goal 60 24;", 3, 8);
    faulty("one sly 0 99;", 3, 8);
    faulty("one sly 3 21;", 3, 10);
    faulty("well 61 1 1;", 3, 5);
    faulty("well 1 11 1;", 3, 7);
    faulty("well 1 1 0;", 3, 9);
    faulty("well 1 1 21;", 3, 9);
    faulty("dew 10;", 3, 4);
    faulty("found 11;", 3, 6);
    faulty("dry 3;", 3, 4);
    faulty("goal 1 1;goal #", 4, 9);
    faulty("dew 1;dew", 4, 6);
    faulty("found 1;found 1;", 4, 8);
    faulty("plan day;plan #", 4, 9);
    faulty("bottle 1;bottle 99", 4, 9);
    faulty("dry 0;dry 0 #", 4, 10);
    faulty("well 1 1 1;well 1 1 1;well 1 1 1;well #", 5, 33);
    faulty("one sly 1 1;one sly 1 1;one sly 1 1;one sly 1 1;one", 5, 48);
    faulty("dry 0;", 6, 6);
    faulty("well 1 1 1;dry 1; ", 6, 18);
    faulty("dry 2;#", 1, 6);
    faulty("bew 1;", 2, 0);
    faulty("dex 1;", 2, 0);
    faulty("one sly 4 1;", 3, 8);
    faulty("one sly 1 21 #", 3, 10);
    faulty("bottle 61 x;", 3, 7);
    faulty("goal 1 24 #", 3, 7);
    faulty("well 1 1 21 #", 3, 9);
    faulty("dry 3 #", 3, 4);
    faulty("dew 10 #", 3, 4);
    faulty("found 11 #", 3, 6);
    faulty("plan # ", 1, 5);
    faulty("one # sly", 1, 4);
    taken("bottle 0;dew 0;found 0;goal 0 0;one sly 1 0;well 1 0 1;dry 0;", 7);
    taken("plan night;", 1);
    taken("bottle 00;", 1);
    BottleFour x = of("bottle 1;");
    due("fault of a text that was taken", x.fault(), 0);
    feedAll(x, "bottle 12;");
    x.end(8);
    due("what was cut off is not read", x.text(), -18);
    feedAll(x, "bottle 12;dew");
    x.text();
    feedAll(x, "bottle 1");
    due("what was read is not read again", x.text(), -18);
    due("its fault", x.fault(), 2);
  }

  private static final String FOUR =
      "one measured 2 12;one sly 1 10;one giver 3 14;one last 1 9;bottle 30;goal 20 18;plan night;well 9 3 12;well 15 10 8;dew 3;found 2;";

  private static void promise6Rule() {
    BottleFour x = of(FOUR);
    int[] rules = {4, 2, 20, 0, 18, 30, 0, 3, 2};
    for (int what = 0; what <= 8; what++) due("rule " + what, x.rule(what), rules[what]);
    due("rule -1", x.rule(-1), BAD);
    due("rule 9", x.rule(9), BAD);
    due("rule MAX", x.rule(MAX), BAD);
  }

  private static void promise7One() {
    BottleFour x = of("one thirsty 3 4;one last 2 4;one last 1 5;one sly 1 0;");
    due("kind", x.one(0, 0), 1);
    due("size", x.one(0, 1), 3);
    due("level", x.one(0, 2), 4);
    due("thirsty wants", x.one(0, 3), 6);
    due("last of 4 wants", x.one(1, 3), 2);
    due("last of 5 wants", x.one(2, 3), 0);
    due("down wants", x.one(3, 3), 0);
    due("one -1", x.one(-1, 0), BAD);
    due("one 4", x.one(4, 0), BAD);
    due("what -1", x.one(0, -1), BAD);
    due("what 4", x.one(0, 4), BAD);
    x = of("one sly 1 20;one sly 1 20;one giver 1 9;one thirsty 1 10;goal 9 21;");
    due("sly who pours wants", x.one(1, 3), 2);
    due("sly who does not", x.one(0, 3), 1);
    due("giver wants", x.one(2, 3), 1);
    due("thirsty of 10 wants", x.one(3, 3), 0);
    due("measured at 20 wants", of("one measured 1 20;").one(0, 3), 1);
    x = of("one measured 1 1;one thirsty 1 1;one last 1 1;one giver 1 1;");
    int[] kinds = {0, 1, 3, 4};
    for (int p = 0; p < 4; p++) due("kind of " + p, x.one(p, 0), kinds[p]);
    due("who is sly and alone pours", of("one sly 1 1;").one(0, 3), 2);
  }

  private static void promise8Well() {
    BottleFour x = of("well 7 3 12;well 60 10 20;dry 0;");
    due("mile", x.well(0, 0), 7);
    due("odds", x.well(0, 1), 3);
    due("caps", x.well(0, 2), 12);
    due("dry", x.well(0, 3), 0);
    due("wet", x.well(1, 3), 1);
    due("well 2", x.well(2, 0), BAD);
    due("well -1", x.well(-1, 0), BAD);
    due("what 4", x.well(0, 4), BAD);
    due("what -1", x.well(0, -1), BAD);
  }

  private static void promise9Pours() {
    due("nobody", new BottleFour().pours(), NONE);
    due("of 4 at 18", of(FOUR).pours(), 2);
    due("of 3 at 23", of("one sly 1 1;one sly 1 1;one sly 1 1;goal 1 23;").pours(), 2);
    due("who is down", of("one sly 1 0;one sly 1 1;goal 1 2;").pours(), 0);
    BottleFour x = of("one sly 1 9;one sly 1 9;one sly 1 9;goal 0 23;");
    x.go(2);
    due("of 3 at 25", x.pours(), 1);
  }

  private static void promise10Loses() {
    String people = "one sly 1 9;one sly 2 9;one sly 3 9;one sly 3 0;";
    int[][] byHour = {{5, 0, 0, 1}, {6, 1, 2, 2}, {17, 1, 1, 2}, {18, 0, 1, 1}};
    for (int[] h : byHour) {
      BottleFour x = of(people + "goal 9 " + h[0] + ";");
      for (int p = 0; p < 3; p++) {
        due("loses " + p + " at " + h[0], x.loses(p, false), h[p + 1]);
        due("loses " + p + " walking at " + h[0], x.loses(p, true), h[p + 1] + 1);
      }
      due("who is down loses", x.loses(3, true), 0);
      due("loses 4", x.loses(4, true), BAD);
      due("loses -1", x.loses(-1, false), BAD);
    }
    due("with a level of 1", of("one sly 3 1;goal 9 12;").loses(0, true), 3);
  }

  private static void promise11Teach() {
    BottleFour x = of("one sly 1 9;");
    due("teach", x.teach(0, 4), 2);
    due("kind then", x.one(0, 0), 4);
    due("teach kind 5", x.teach(0, 5), BAD);
    due("teach kind -1", x.teach(0, -1), BAD);
    due("teach one 1", x.teach(1, 0), BAD);
    due("teach one -1", x.teach(-1, 0), BAD);
    due("kind still", x.one(0, 0), 4);
  }

  private static void promise12Drink() {
    BottleFour x = of("one sly 1 15;one sly 1 0;bottle 9;");
    String before = all(x);
    due("drink 21", x.drink(0, 21), BAD);
    due("drink -1", x.drink(0, -1), BAD);
    due("drink of nobody", x.drink(2, 0), BAD);
    due("drink of -1", x.drink(-1, 0), BAD);
    due("drink who is down", x.drink(1, 0), STATE);
    due("drink more than there is", x.drink(0, 10), STATE);
    due("drink above 20", x.drink(0, 6), FULL);
    unchanged("drink", x, before);
    due("drink to 20", x.drink(0, 5), 20);
    due("the bottle then", x.rule(5), 4);
    due("drink 0", x.drink(0, 0), 20);
    x = of("one sly 1 5;bottle 9;");
    due("drink all of it", x.drink(0, 9), 14);
  }

  private static void promise13Fill() {
    BottleFour x = new BottleFour();
    due("fill 60", x.fill(60), 0);
    due("fill 61", x.fill(61), BAD);
    due("fill -1", x.fill(-1), BAD);
    due("fill 0", x.fill(0), 60);
    due("the bottle then", x.rule(5), 0);
  }

  private static void promise14Plan() {
    BottleFour x = new BottleFour();
    due("plan 3", x.plan(3), 0);
    due("plan 4", x.plan(4), BAD);
    due("plan -1", x.plan(-1), BAD);
    due("rule 6", x.rule(6), 3);
    due("plan 0", x.plan(0), 3);
  }

  private static void promise15Wet() {
    BottleFour x = of("well 7 3 12;");
    due("wet not", x.wet(0, false), 1);
    due("wet then", x.well(0, 3), 0);
    due("wet again", x.wet(0, true), 0);
    due("wet then", x.well(0, 3), 1);
    due("wet 1", x.wet(1, true), BAD);
    due("wet -1", x.wet(-1, true), BAD);
  }

  private static void promise16Odd() {
    BottleFour x = of("well 7 3 12;");
    due("odd 10", x.odd(0, 10), 3);
    due("odd 11", x.odd(0, 11), BAD);
    due("odd -1", x.odd(0, -1), BAD);
    due("odd of 1", x.odd(1, 0), BAD);
    due("odds then", x.well(0, 1), 10);
    due("odd 0", x.odd(0, 0), 10);
  }

  private static void promise17Lay() {
    BottleFour x = of("dew 4;found 5;");
    due("cloths 9", x.lay(0, 9), 4);
    due("cloths 10", x.lay(0, 10), BAD);
    due("cloths -1", x.lay(0, -1), BAD);
    due("found 10", x.lay(1, 10), 5);
    due("found 11", x.lay(1, 11), BAD);
    due("found -1", x.lay(1, -1), BAD);
    due("lay 2", x.lay(2, 0), BAD);
    due("lay -1", x.lay(-1, 0), BAD);
    due("cloths then", x.rule(7), 9);
    due("found then", x.rule(8), 10);
    due("cloths 0", x.lay(0, 0), 9);
    due("found 0", x.lay(1, 0), 10);
  }

  /** Two givers and others in one hour: the order, the one who is lowest then, the bottle's end. */
  private static void drinkingInOrder() {
    // At 18 of 4, ONE 2 pours: 3, 0, 1, 2 drink. 3 gives to 0 (3 to 4), 0 takes 2 (to 6),
    // 1 takes 3 (7 to 10), 2 is left 1 of his 2.
    BottleFour x = of("one last 1 3;one thirsty 1 7;one sly 1 9;one giver 1 5;bottle 7;plan stay;");
    x.go(1);
    int[] levels = {6, 10, 10, 5};
    for (int p = 0; p < 4; p++) due("level of " + p, x.one(p, 2), levels[p]);
    due("the bottle is empty", x.rule(5), 0);
    // Of two who are lowest the first; who is down is nobody to give to.
    x = of("one giver 1 9;one last 1 6;one last 1 6;one last 1 0;bottle 9;plan stay;");
    x.go(1);
    due("the first of the lowest", x.one(1, 2), 7);
    due("the second", x.one(2, 2), 6);
    due("who is down stays so", x.one(3, 2), 0);
    x = of("one giver 1 9;one last 1 9;bottle 9;plan stay;");
    x.go(1);
    due("none is lower: for himself", x.one(0, 2), 10);
    x = of("one measured 1 20;one sly 1 19;bottle 9;goal 9 19;plan stay;");
    x.go(1);
    due("no more than 20 of the first", x.one(0, 2), 20);
    due("no more than 20 of who pours", x.one(1, 2), 20);
    due("the bottle lost 1", x.rule(5), 8);
  }

  private static void promise18Go() {
    BottleFour x = of(FOUR);
    due("go -1", x.go(-1), BAD);
    due("go 61", x.go(61), BAD);
    due("go 0", x.go(0), 4);
    due("no hour went", x.rule(4), 18);
    due("go 1", x.go(1), 4);
    due("mile by night", x.rule(3), 3);
    x = of("one measured 3 1;one measured 3 0;plan all;goal 20 12;");
    due("go till down", x.go(1), 0);
    due("no mile if all are down then", x.rule(3), 0);
    due("hours go by", x.go(60), 0);
    due("hour 73", x.rule(4), 73);
    x = of("one measured 1 20;plan all;goal 60 12;well 2 10 20;well 3 10 20;bottle 50;");
    x.go(1);
    due("mile by day", x.rule(3), 2);
    due("a well up to where they are, 60 at most", x.rule(5), 60);
    due("it is not wet then", x.well(0, 3), 0);
    due("a well beyond is", x.well(1, 3), 1);
    x.fill(0);
    x.wet(0, true);
    x.wet(1, false);
    x.go(1);
    due("a well where they were is passed by", x.rule(5), 0);
    due("it is wet still", x.well(0, 3), 1);
    x = of("one last 1 6;one last 1 12;plan all;goal 60 6;");
    x.go(1);
    due("the level of 6 lost 2: 1 mile less by day", x.rule(3), 1);
    x = of("one last 1 7;plan night;goal 60 18;");
    x.go(1);
    due("a level of 6 then: 3 by night", x.rule(3), 3);
    x.go(1);
    due("a level of 5 then: 2 by night", x.rule(3), 5);
    x = of("one last 1 12;one last 1 0;plan night;goal 60 18;");
    x.go(1);
    due("who is down does not slow", x.rule(3), 3);
    x = of("one last 1 9;bottle 55;dew 9;goal 9 4;plan stay;");
    x.go(1);
    due("dew at 4, 60 at most", x.rule(5), 60);
    x = of("one last 1 9;bottle 5;dew 9;goal 0 4;plan stay;");
    x.go(1);
    due("no dew when it is over", x.rule(5), 5);
    x = of("one measured 1 1;dew 1;goal 9 4;plan stay;");
    x.go(1);
    due("dew is drunk in its hour", x.one(0, 2), 2);
    x = new BottleFour();
    for (int i = 0; i < 16; i++) due("go 60", x.go(60), 0);
    due("hour 978", x.rule(4), 978);
    due("go to 1000", x.go(22), FULL);
    due("BAD before FULL", x.go(61), BAD);
    due("go to 999", x.go(21), 0);
    due("go 1 more", x.go(1), FULL);
    due("go 0 more", x.go(0), 0);
    drinkingInOrder();
    plansWalk();
  }

  private static void plansWalk() {
    int[][] miles = {{0, 3, 0, 3}, {0, 0, 2, 0}, {0, 3, 2, 3}, {0, 0, 0, 0}};
    int[] hours = {0, 5, 6, 18};
    for (int plan = 0; plan < 4; plan++) {
      for (int h = 1; h < 4; h++) {
        BottleFour x = of("one last 1 20;goal 9 " + hours[h] + ";");
        x.plan(plan);
        due("mile by plan " + plan + " at " + hours[h], x.ahead(1, 0), miles[plan][h]);
      }
    }
    BottleFour x = of("one last 1 20;goal 9 17;");
    x.plan(1);
    due("17 is by day", x.ahead(1, 0), 2);
  }

  private static void promise19Ahead() {
    BottleFour x = of(FOUR);
    String before = all(x);
    due("ahead -1", x.ahead(-1, 0), BAD);
    due("ahead 97", x.ahead(97, 0), BAD);
    due("what 3", x.ahead(1, 3), BAD);
    due("what 9", x.ahead(1, 9), BAD);
    due("what 14", x.ahead(1, 14), BAD);
    due("what -1", x.ahead(1, -1), BAD);
    due("what MIN", x.ahead(1, MIN), BAD);
    due("ahead 0", x.ahead(0, 1), 30);
    due("ahead 1 mile", x.ahead(1, 0), 3);
    due("ahead 1 caps", x.ahead(1, 1), 27);
    due("ahead 1 standing", x.ahead(1, 2), 4);
    due("ahead 1 level of 0", x.ahead(1, 10), 11);
    due("ahead 96 mile", x.ahead(96, 0), 21);
    unchanged("ahead", x, before);
  }

  private static void promise20Down() {
    BottleFour x = of("one last 1 3;one last 1 0;one last 3 20;goal 60 18;plan stay;");
    due("down of who is", x.down(1), 0);
    due("down of 2 in the night's twenty hours", x.down(2), 16);
    due("down by day", x.down(0), 15);
    due("down 3", x.down(3), BAD);
    due("down -1", x.down(-1), BAD);
    x = of("one measured 1 20;bottle 60;goal 60 0;plan stay;");
    due("down behind none", x.down(0), NONE);
    x = of("one last 1 3;goal 0 6;");
    due("over: down behind none", x.down(0), NONE);
    // 48 hours by day lose 48: 20, and 28 of the bottle.
    due("down behind 96", of("one last 1 20;bottle 28;goal 60 18;plan stay;").down(0), 96);
    due("down behind 97 or more", of("one last 1 20;bottle 29;goal 60 18;plan stay;").down(0), NONE);
  }

  private static void promise21Arrive() {
    // 20 miles by 3 by night: 7 hours; each loses 1 an hour.
    BottleFour x = of("one last 1 13;one last 1 0;goal 20 18;");
    due("arrive by night", x.arrive(0, 0), 1);
    due("hours by night", x.arrive(0, 1), 7);
    due("arrive staying", x.arrive(3, 0), 0);
    due("hours staying", x.arrive(3, 1), NONE);
    due("plan 4", x.arrive(4, 0), BAD);
    due("plan -1", x.arrive(-1, 0), BAD);
    due("what 2", x.arrive(0, 2), BAD);
    due("what -1", x.arrive(0, -1), BAD);
    x = of("one sly 1 5;one sly 1 0;goal 0 18;");
    due("there already", x.arrive(1, 0), 1);
    due("behind 0 hours", x.arrive(3, 1), 0);
    x = of("one sly 1 0;goal 0 18;");
    due("there, but down", x.arrive(1, 0), 0);
    due("there, but down: hours", x.arrive(1, 1), NONE);
    x = of("one thirsty 1 20;bottle 60;dew 9;goal 60 18;plan stay;");
    due("96 hours are not enough to stay", x.arrive(3, 0), 0);
    due("he is up then", x.ahead(96, 2), 1);
    // With 5 or less he makes a mile an hour by day: 48 in 96 hours.
    String slow = "one last 1 5;bottle 60;dew 9;well 20 9 20;plan day;";
    due("96 hours are enough", of(slow + "goal 48 18;").arrive(1, 1), 96);
    due("96 hours are not enough", of(slow + "goal 49 18;").arrive(1, 0), 0);
    due("though he is up", of(slow + "goal 49 18;").ahead(96, 2), 1);
    x = of(slow + "goal 49 6;");
    due("he would be there behind 97", x.arrive(1, 0), 0);
    due("a mile is left behind 96", x.ahead(96, 0), 48);
    due("he is up there", x.ahead(96, 2), 1);
  }

  private static void promise22Best() {
    due("of nobody", new BottleFour().best(0), 0);
    BottleFour x = of("one last 1 20;goal 4 6;");
    due("by day and always are as soon: the first", x.best(0), 1);
    due("one arrives", x.best(1), 1);
    x = of("one last 1 20;goal 9 18;");
    due("by night and always are as soon", x.best(0), 0);
    // 2 hours by day, 2 by night; by night alone 2 hours are waited for.
    x = of("one last 1 20;one last 1 20;goal 9 16;");
    due("always is sooner than by night", x.best(0), 2);
    due("two arrive", x.best(1), 2);
    // Always the second loses 2 an hour and is down at the end of the 6th; by night he stays 6
    // hours first, loses 1 in each, and has 1 left when he arrives behind 11.
    x = of("one last 1 20;one last 1 12;goal 9 12;");
    due("always: one, sooner", x.arrive(2, 0), 1);
    due("always: 6 hours", x.arrive(2, 1), 6);
    due("by night: 11 hours", x.arrive(0, 1), 11);
    due("more, though later", x.best(0), 0);
    due("by that two arrive", x.best(1), 2);
    due("what 2", x.best(2), BAD);
    due("what -1", x.best(-1), BAD);
  }

  private static void promise23Late() {
    // By night without a bottle: no loss while they stay till 6; then 1 an hour.
    BottleFour x = of("one last 1 3;goal 4 18;");
    // 2 hours of walking by night (2 miles each: his level is 5 or less) lose 2: he has 1 left.
    due("till the day's first hour is to be walked", x.late(1), 10);
    due("two of one", x.late(2), NONE);
    due("late 0", x.late(0), BAD);
    due("late 5", x.late(5), BAD);
    x = of("one last 1 3;goal 0 18;");
    due("there already", x.late(1), 72);
    due("nobody", new BottleFour().late(1), NONE);
  }

  private static void promise24Least() {
    // 7 hours by night lose 7; 2 miles by level 5 or less.
    BottleFour x = of("one measured 1 6;goal 3 18;bottle 60;");
    due("none is needed", x.least(), 0);
    x = of("one measured 1 1;goal 4 18;bottle 60;");
    due("one cap an hour", x.least(), 2);
    due("the bottle has its caps still", x.rule(5), 60);
    x = of("one measured 1 1;one sly 1 0;goal 2 18;");
    due("who is down now is not asked for", x.least(), 1);
    x = of("one measured 1 1;goal 60 6;plan stay;");
    due("none is enough to stay", x.least(), NONE);
    String four = "one measured 1 1;one measured 1 1;one measured 1 1;one measured 1 1;";
    due("four for 15 hours", of(four + "goal 6 6;").least(), 60);
    due("four for 16 hours", of(four + "goal 8 6;").least(), NONE);
    due("nobody", new BottleFour().least(), NONE);
    due("nobody, at the goal", of("goal 0 1;").least(), 0);
  }

  private static void promise25Alike() {
    BottleFour x = of("one last 1 5;one measured 1 3;one sly 1 0;goal 8 18;bottle 20;");
    due("all measured", x.alike(0), 2);
    due("kinds stay", x.one(0, 0), 3);
    x = of("one measured 1 3;one measured 1 4;goal 8 18;bottle 3;");
    // 4 hours of 2 miles. Measured, they drink 2 and 1; of the kind last the second, who drinks
    // first, takes 2, and the first, who is left 1, has nothing left in the 4th hour.
    due("all measured", x.alike(0), 2);
    due("all last", x.alike(3), 1);
    due("alike 5", x.alike(5), BAD);
    due("alike -1", x.alike(-1), BAD);
  }

  private static void promise26Alone() {
    BottleFour x = of("one sly 1 2;one measured 1 2;one last 1 0;goal 8 18;bottle 60;");
    due("with none he is down", x.alone(1, 0), NONE);
    due("with 2 he is down in the 4th hour", x.alone(1, 2), NONE);
    due("with 3 he arrives", x.alone(1, 3), 4);
    due("who is sly pours alone always", x.alone(0, 3), 4);
    due("who is down", x.alone(2, 3), STATE);
    due("caps 21", x.alone(2, 21), BAD);
    due("caps -1", x.alone(0, -1), BAD);
    due("alone 3", x.alone(3, 1), BAD);
    due("alone -1", x.alone(-1, 1), BAD);
    due("the bottle has its caps still", x.rule(5), 60);
    due("they are three still", x.rule(0), 3);
    due("there already", of("one sly 1 2;goal 0 1;").alone(0, 0), 0);
  }

  private static void promise27Luck() {
    // Without the well at 2 he is down behind 2 hours; with it he drinks 1 an hour.
    BottleFour x = of("one measured 1 2;well 2 4 20;goal 20 18;");
    fraction("luck 1", x.luck(1, 0, 0), x.luck(1, 0, 1), 2, 5);
    fraction("luck 2", x.luck(2, 0, 0), x.luck(2, 0, 1), 0, 1);
    fraction("luck by staying", x.luck(1, 3, 0), x.luck(1, 3, 1), 0, 1);
    x.odd(0, 10);
    fraction("luck of 10 tenths", x.luck(1, 0, 0), x.luck(1, 0, 1), 1, 1);
    x.wet(0, false);
    fraction("luck of a well that is not wet", x.luck(1, 0, 0), x.luck(1, 0, 1), 0, 1);
    x = of("one measured 1 2;well 2 5 20;well 1 5 20;well 40 3 1;goal 20 18;");
    fraction("luck of one of two", x.luck(1, 0, 0), x.luck(1, 0, 1), 3, 4);
    due("wells are as they were", x.count(6), 3);
    due("k 0", x.luck(0, 0, 0), BAD);
    due("k 5", x.luck(5, 0, 0), BAD);
    due("plan 4", x.luck(1, 4, 0), BAD);
    due("plan -1", x.luck(1, -1, 0), BAD);
    due("what 2", x.luck(1, 0, 2), BAD);
    due("what -1", x.luck(1, 0, -1), BAD);
  }

  private static void promise28Mean() {
    BottleFour x = of("one measured 1 2;one last 1 20;well 2 4 20;goal 20 18;");
    fraction("mean", x.mean(0, 0), x.mean(0, 1), 7, 5);
    fraction("mean by staying", x.mean(3, 0), x.mean(3, 1), 0, 1);
    x.odd(0, 0);
    fraction("mean of no odds", x.mean(0, 0), x.mean(0, 1), 1, 1);
    due("plan 4", x.mean(4, 0), BAD);
    due("plan -1", x.mean(-1, 0), BAD);
    due("what 2", x.mean(0, 2), BAD);
    due("what -1", x.mean(0, -1), BAD);
  }

  private static void promise29Stay() {
    BottleFour x = of("one thirsty 1 20;bottle 60;goal 60 12;found 2;");
    fraction("stay 0", x.stay(0, 0), x.stay(0, 1), 0, 1);
    fraction("stay 1", x.stay(1, 0), x.stay(1, 1), 1, 5);
    fraction("stay 24", x.stay(24, 0), x.stay(24, 1), 1, 5);
    fraction("stay 25", x.stay(25, 0), x.stay(25, 1), 9, 25);
    fraction("stay 96", x.stay(96, 0), x.stay(96, 1), 369, 625);
    x.lay(1, 10);
    fraction("found for sure", x.stay(96, 0), x.stay(96, 1), 1, 1);
    due("stay 97", x.stay(97, 0), BAD);
    due("stay -1", x.stay(-1, 0), BAD);
    due("what 2", x.stay(1, 2), BAD);
    due("what -1", x.stay(1, -1), BAD);
    x = of("one last 1 7;goal 60 18;found 5;plan all;");
    // By day from 6 on he loses 1 an hour: at 12 he has 1 left, at 13 none.
    fraction("up at 12", x.stay(96, 0), x.stay(96, 1), 1, 2);
    x = of("one last 1 6;goal 60 18;found 5;plan all;");
    fraction("down at 12", x.stay(96, 0), x.stay(96, 1), 0, 1);
    x = of("one last 1 6;goal 0 12;found 5;");
    fraction("at the goal he is up", x.stay(1, 0), x.stay(1, 1), 1, 2);
  }

  private static void promise30See() {
    BottleFour x = new BottleFour();
    due("see 0", x.see(0, 0), BAD);
    due("see 25", x.see(25, 0), BAD);
    due("caps -1", x.see(1, -1), BAD);
    due("caps 61", x.see(1, 61), BAD);
    for (int i = 1; i <= 6; i++) due("see " + i, x.see(24, 60), i);
    due("the 7th", x.see(1, 0), FULL);
    due("BAD before FULL", x.see(25, 0), BAD);
    due("count 0", x.count(0), 6);
  }

  private static void promise31Forget() {
    BottleFour x = of("one last 1 9;bottle 9;plan stay;");
    x.see(1, 9);
    x.see(1, 8);
    due("forget 3", x.forget(3), BAD);
    due("forget -1", x.forget(-1), BAD);
    due("none fits both", x.fits(0), 0);
    due("forget 1", x.forget(1), 2);
    due("the first stays", x.fits(1), 3);
    due("forget 0", x.forget(0), 1);
    due("forget 0 of none", x.forget(0), 0);
  }

  private static void promise32Fits() {
    BottleFour x = of("one last 1 9;one last 1 9;bottle 9;plan stay;");
    due("all fit when nothing is seen", x.fits(0), 25);
    due("the first of all", x.fits(1), 0);
    // At 18 ONE 0 pours: 1 drinks first. 0: 1 each; 1: 1; 2: 2, if he pours; 3: 0; 4: 1.
    x.see(1, 9);
    due("only last and last leave 9", x.fits(0), 1);
    due("as a number to the base 5", x.fits(1), 18);
    x.forget(0);
    x.see(1, 8);
    // One drinks 1, the other nothing: (3, k) with k of 0, 1, 2, 4; (0, 1, 4 with 3).
    due("those that leave 8", x.fits(0), 7);
    due("their first", x.fits(1), 3);
    x.see(1, 9);
    due("none", x.fits(0), 0);
    due("no first", x.fits(1), NONE);
    due("kinds stay", x.one(0, 0), 3);
    due("what 2", x.fits(2), BAD);
    due("what -1", x.fits(-1), BAD);
    x = of("one sly 1 9;one sly 1 9;one sly 1 9;one sly 1 9;");
    due("of four", x.fits(0), 625);
    x = new BottleFour();
    x.see(3, 1);
    due("nobody, not as seen", x.fits(0), 0);
    due("nobody, no first", x.fits(1), NONE);
  }

  private static void promise33Kinds() {
    BottleFour x = of("one last 1 9;one last 1 9;bottle 9;plan stay;");
    due("all kinds", x.kinds(1), 31);
    x.see(1, 7);
    // Both drink 1 (0, 1, 4 and 0, 1, 2, 4), or the first pours and takes 2 and the other none.
    due("kinds of 0 that leave 7", x.kinds(0), 1 + 2 + 4 + 16);
    due("kinds of 1 that leave 7", x.kinds(1), 31);
    x.see(1, 9);
    due("no kinds", x.kinds(0), 0);
    due("kinds 2", x.kinds(2), BAD);
    due("kinds -1", x.kinds(-1), BAD);
  }

  private static void promise34Drift() {
    BottleFour x = of("one last 1 20;goal 60 18;bottle 4;plan stay;");
    String before = all(x);
    // Seed 0 becomes 12345, 3554416254, 2802067423, 3596950572, 229283573, 3256818826 (of 32 bits);
    // bits 16 to 30 modulo 3: 0, 0, 1, 1, 0, 1.
    int[] miles = {0, 0, 0, 3, 6, 6, 9};
    for (int n = 1; n <= 6; n++) due("seed 0, hours " + n, x.drift(0, n, 0), miles[n]);
    due("seed 12345, hours 2", x.drift(12345, 2, 0), 3);
    due("caps", x.drift(0, 6, 1), 4);
    due("standing", x.drift(0, 6, 2), 1);
    unchanged("drift", x, before);
    due("drift 0", x.drift(1, 0, 0), BAD);
    due("drift 61", x.drift(1, 61, 0), BAD);
    due("what 3", x.drift(1, 1, 3), BAD);
    due("what -1", x.drift(1, 1, -1), BAD);
  }

  private static void promise35Keep() {
    BottleFour x = new BottleFour();
    due("keep 2", x.keep(2), BAD);
    due("keep -1", x.keep(-1), BAD);
    due("keep 1", x.keep(1), 0);
    due("keep 1 again", x.keep(1), 1);
    due("images", x.count(1), 1);
    due("keep 0", x.keep(0), 0);
    due("images", x.count(1), 2);
  }

  private static void promise36Back() {
    BottleFour x = of(FOUR);
    due("back 2", x.back(2), BAD);
    due("back -1", x.back(-1), BAD);
    due("back 0", x.back(0), STATE);
    x.see(1, 1);
    x.sheet(0, 0, 2);
    x.keep(0);
    x.keep(1);
    String before = all(x);
    x.go(5);
    x.keep(1);
    x.teach(0, 4);
    x.fill(1);
    x.plan(2);
    x.wet(0, true);
    x.wet(1, false);
    x.odd(1, 1);
    x.lay(0, 0);
    x.lay(1, 0);
    due("back 1", x.back(1), 23);
    due("mile of image 1", x.rule(3), 15);
    due("back 0", x.back(0), 18);
    x.teach(0, 3);
    due("back 0 again", x.back(0), 18);
    unchanged("back", x, before);
    due("the well is wet again", x.well(0, 3), 1);
    due("what is seen stays", x.count(0), 1);
  }

  private static void promise37Sheet() {
    BottleFour x = new BottleFour();
    due("sheet 4", x.sheet(4, 0, 1), BAD);
    due("sheet -1", x.sheet(-1, 0, 1), BAD);
    due("lane 3", x.sheet(0, 3, 1), BAD);
    due("lane -1", x.sheet(0, -1, 1), BAD);
    due("n 41", x.sheet(0, 0, 41), BAD);
    due("BAD before SIZE", x.sheet(0, 3, -1), BAD);
    due("n -1", x.sheet(0, 0, -1), -14);
    due("n MIN", x.sheet(0, 0, MIN), -14);
    due("nothing still", x.count(3), NONE);
    due("n 40", x.sheet(0, 2, 40), 1);
    due("cells", x.count(3), 40);
    due("n -1", x.sheet(0, 0, -1), -14);
    due("cells still", x.count(3), 40);
    due("n 0", x.sheet(0, 0, 0), 1);
    due("no cells", x.count(3), 0);
    x = of("one sly 1 1;bottle 9;");
    x.sheet(1, 2, 2);
    x.put(1, 1, 3);
    x.sheet(1, 2, 2);
    due("a new row's drink is of 0", x.read(1, 2, 0, 1), 1);
    due("level still", x.one(0, 2), 1);
  }

  private static void promise38Put() {
    BottleFour x = of("one sly 1 1;bottle 9;");
    due("put 4", x.put(4, 0, 0), BAD);
    due("put -1", x.put(-1, 0, 0), BAD);
    due("put in nothing", x.put(0, 0, 0), -11);
    x.sheet(0, 0, 2);
    due("cell 2", x.put(0, 2, 0), -12);
    due("cell -1", x.put(0, -1, 0), -12);
    due("cell MAX", x.put(0, MAX, 0), -12);
    due("cell 1", x.put(0, 1, 256 + 3), 1);
    due("the lowest 8 bits", x.read(0, 0, 0, 1), 1);
    due("level then", x.one(0, 2), 4);
    x.put(0, 0, 128);
    due("128 is -128 as a byte", x.read(0, 0, 0, 1), -20);
    x.sheet(0, 1, 2);
    x.put(0, 1, 65536 + 2);
    due("the lowest 16 bits", x.read(0, 1, 0, 1), 1);
    due("level then", x.one(0, 2), 6);
    x.sheet(0, 2, 2);
    x.put(0, 1, 65536 + 2);
    due("all bits", x.read(0, 2, 0, 1), -20);
    x.sheet(0, 2, 0);
    due("cell 0 of none", x.put(0, 0, 0), -12);
  }

  private static void promise39Read() {
    BottleFour x = of("one sly 1 5;one last 2 19;one sly 1 0;bottle 9;");
    x.sheet(1, 0, 7);
    int[] cells = {0, 3, 1, 1, 1, 1, 0};
    for (int i = 0; i < cells.length; i++) x.put(1, i, cells[i]);
    due("sheet 4", x.read(4, 0, 0, 1), BAD);
    due("sheet -1", x.read(-1, 0, 0, 1), BAD);
    due("lane 3", x.read(1, 3, 0, 1), BAD);
    due("lane -1", x.read(1, -1, 0, 1), BAD);
    due("n 21", x.read(1, 0, 0, 21), BAD);
    due("n -1", x.read(1, 0, 0, -1), BAD);
    String before = all(x);
    due("the 2nd is above 20", x.read(1, 0, 0, 20), -22);
    unchanged("read that is refused", x, before);
    due("two drinks", x.read(1, 0, 0, 2), 2);
    due("level of 0", x.one(0, 2), 8);
    due("level of 1", x.one(1, 2), 20);
    due("the bottle", x.rule(5), 5);
    x.put(1, 0, 2);
    due("who is down", x.read(1, 0, 0, 1), -20);
    x.put(1, 0, 3);
    due("who is not", x.read(1, 0, 0, 1), -20);
    x.put(1, 0, 0);
    x.put(1, 1, 6);
    due("more than there is", x.read(1, 0, 0, 1), -20);
    x.put(1, 1, 2);
    for (int i = 2; i < 6; i += 2) x.put(1, i, 0);
    due("those ahead of the sheet's end were", x.read(1, 0, 0, 20), 3);
    due("level then", x.one(0, 2), 12);
    due("the bottle then", x.rule(5), 1);
    due("its fault", x.torn(), 2);
    due("20 drinks of nothing", x.read(2, 0, 0, 20), 0);
    due("far off", x.read(1, 0, MAX, 20), 0);
    due("far off below", x.read(1, 0, MIN, 20), 0);
  }

  private static void promise40Torn() {
    BottleFour x = of("one sly 1 5;bottle 9;");
    x.sheet(0, 1, 4);
    due("of nothing", x.read(3, 1, 9, 1), 0);
    due("NULL", x.torn(), 1);
    due("BAD", x.read(3, 3, 0, 1), BAD);
    due("stays", x.torn(), 1);
    due("of another lane, beyond its end", x.read(0, 2, 9, 1), 0);
    due("CAST", x.torn(), 3);
    x.put(0, 0, 9);
    due("refused by drink", x.read(0, 1, 0, 1), -20);
    due("stays", x.torn(), 3);
    due("half a drink", x.read(0, 1, 3, 1), 0);
    due("INDEX", x.torn(), 2);
    due("none of them", x.read(0, 1, 0, 0), 0);
    due("no fault", x.torn(), 0);
    due("below 0", x.read(0, 1, -1, 1), 0);
    due("INDEX", x.torn(), 2);
    due("whole", x.read(0, 1, 2, 1), 1);
    due("no fault", x.torn(), 0);
  }

  private static void promise41Count() {
    BottleFour x = of("one sly 1 5;one last 2 19;one sly 1 0;bottle 9;well 1 1 1;well 2 2 2;dry 0;");
    x.see(1, 1);
    x.keep(1);
    x.feed('a');
    x.feed('b');
    x.feed('c');
    x.sheet(0, 0, 7);
    x.sheet(1, 0, 9);
    int[] counts = {1, 1, 3, 7, 2, 24, 1};
    for (int what = 0; what <= 6; what++) due("count " + what, x.count(what), counts[what]);
    due("count -1", x.count(-1), BAD);
    due("count 7", x.count(7), BAD);
  }

  public static void main(String[] args) {
    promise1New();
    promise2Feed();
    promise3End();
    promise4Text();
    promise5Fault();
    promise6Rule();
    promise7One();
    promise8Well();
    promise9Pours();
    promise10Loses();
    promise11Teach();
    promise12Drink();
    promise13Fill();
    promise14Plan();
    promise15Wet();
    promise16Odd();
    promise17Lay();
    promise18Go();
    promise19Ahead();
    promise20Down();
    promise21Arrive();
    promise22Best();
    promise23Late();
    promise24Least();
    promise25Alike();
    promise26Alone();
    promise27Luck();
    promise28Mean();
    promise29Stay();
    promise30See();
    promise31Forget();
    promise32Fits();
    promise33Kinds();
    promise34Drift();
    promise35Keep();
    promise36Back();
    promise37Sheet();
    promise38Put();
    promise39Read();
    promise40Torn();
    promise41Count();
    finish("all promises hold");
  }
}

/** Promises 7 to 14: house, line, year, tighten, cut, hang, prop, undo; and the rules' words by what a year does. */
public final class ActsTest {
  private static final Checks CHECKS = new Checks();

  private static void due(String call, int got, int want) {
    CHECKS.due(call, got, want);
  }

  private static void housesAndLines() {
    TannerBunting x = Checks.on(Checks.SAMPLE);
    due("lean", x.house(3, 0), 9);
    due("foot", x.house(3, 1), 1);
    due("stands", x.house(3, 2), 1);
    due("lines", x.house(3, 3), 6);
    due("no such what", x.house(3, 4), -1);
    due("what below 0", x.house(3, -1), -1);
    due("no such house", x.house(4, 0), -1);
    due("house below 0", x.house(-1, 0), -1);
    due("odd", x.line(2, 0), 1);
    due("even", x.line(2, 1), 3);
    due("pull", x.line(2, 2), 4);
    due("up", x.line(2, 3), 1);
    due("no such what", x.line(2, 4), -1);
    due("what below 0", x.line(2, -1), -1);
    due("no such line", x.line(3, 0), -1);
    due("line below 0", x.line(-1, 0), -1);
  }

  private static void years() {
    TannerBunting x = Checks.on(Checks.SAMPLE);
    due("year", x.year(), 13);
    due("one stands", x.count(6), 2);
    due("no line is up", x.count(7), 0);
    due("fallen", x.house(0, 2), 0);
    due("lean of a fallen one", x.house(0, 0), 10);
    due("odd of a line that was", x.line(0, 0), 0);
    due("pull of a line that was", x.line(0, 2), 0);
    due("up of a line that was", x.line(0, 3), 0);
    due("year 1", x.count(5), 1);
    due("nothing more falls", x.year(), 0);
    due("year of none", new TannerBunting().year(), -1);
    x = Checks.on("street 1 3;line 0 1 6;line 0 1 7");
    due("fades", x.year(), 0);
    due("less", x.line(0, 2), 3);
    x.year();
    due("one that would pull 0", x.line(0, 3), 0);
    due("one that pulls 1", x.line(1, 2), 1);
    x.year();
    due("one that would pull less", x.line(1, 3), 0);
    x = Checks.on("street 1 0;house 0 2 0;house 1 3 3;line 0 1 1");
    due("falls, though it stood at first", x.year(), 1);
    due("its line goes with it", x.line(0, 3), 0);
  }

  private static void lastYear() {
    TannerBunting x = Checks.on("street 1 0");
    x.image(0);
    for (int n = 1; n <= 500; n++) {
      x.year();
    }
    due("500", x.count(5), 500);
    for (int n = 501; n <= 999; n++) {
      x.year();
    }
    due("999", x.count(5), 999);
    due("no more", x.year(), -1);
    due("still 999", x.count(5), 999);
    due("ahead goes on", x.ahead(5, 0), 3);
  }

  /** The lines that are up behind a year by a rule. */
  private static void kept(String rule, int want) {
    TannerBunting x = Checks.on("street 2 1;house 0 3 9;house 1 4 8;house 2 5 7;house 3 6 10"
        + ";line 0 2 9;line 0 3 5;line 1 3 4;line 1 2 2");
    due("rule of " + rule, Checks.rule(x, rule), 0);
    x.force(0);
    x.year();
    due("up by " + rule, x.count(7), want);
  }

  private static void ruledYears() {
    kept("keep pull - 4", 3);
    kept("keep line", 14);
    kept("keep odd", 12);
    kept("keep even - 2", 6);
    kept("keep leanodd - 3", 12);
    kept("keep leaneven - 5", 6);
    kept("keep footodd - 8", 3);
    kept("keep footeven - 7", 6);
    kept("keep up - 3", 15);
    kept("keep up - 4", 0);
    kept("keep standing - 3", 15);
    kept("keep standing - 4", 0);
    kept("keep fades", 15);
    kept("keep fades - 1", 0);
    kept("keep year", 0);
    kept("keep year + 1", 15);
    kept("keep 1 if pull < 5", 12);
    kept("keep 1 if pull <= 5", 14);
    kept("keep 1 if pull = 5", 2);
    kept("keep 1 if pull >= 5", 3);
    kept("keep 1 if pull > 5", 1);
    kept("keep 1 if not pull > 5", 14);
    kept("keep 1 if pull = 9 or pull = 4 and line = 2", 5);
    kept("keep 1 if [pull = 9 or pull = 4] and line = 2", 4);
    kept("keep 1 if not pull = 9 and line < 2", 2);
    kept("keep 1 if not [pull = 9 and line < 2]", 14);
    kept("keep 0 if pull = 9; keep 1", 14);
    kept("keep 0 if pull = 9; keep 1 if pull = 5; keep 0; keep 1", 2);
    kept("keep 1 if pull = 9; keep 0 - 1 if pull = 5", 1);
    kept("keep 2 + 3 * 4 - 13", 15);
    kept("keep 2 + 3 * 4 - 14", 0);
    kept("keep 10 - 3 - 6", 15);
    kept("keep 10 - 3 - 7", 0);
    kept("keep 17 / 5 % 3 + 1", 15);
    kept("keep 17 / 5 % 3", 0);
    kept("keep 7 / 0 + 1 - 7 % 0", 15);
    kept("keep 7 / 0", 0);
  }

  private static void signsAndRounds() {
    TannerBunting x = Checks.on("street 1 0;line 0 1 9");
    Checks.rule(x, "keep 2 + [0]");
    Checks.rule(x, "keep 1 if 0 - 7 / 2 * 1 = 0 - 3 and [0 - 7] = 0");
    due("brackets stand in tests alone", x.count(3), 0);
    Checks.rule(x, "keep 4 if 0 * 1 - 7 / 2 = 0 - 3");
    due("a rule", x.count(3), 1);
    due("towards 0", upAfterYear(x, "keep 0 - 3 + 4 - 0 if 0 - 7 - 0 < 0"), 1);
    // 99999 to the fourth goes round: its low 64 bits are below 0 or above by what 64 bits hold.
    String big = "99999*99999*99999*99999";
    long round = 99999L * 99999L * 99999L * 99999L;
    due("goes round", upAfterYear(x, "keep " + big), round > 0 ? 1 : 0);
    due("its rest is below 0", upAfterYear(x, "keep 1 if " + big + "%7<0"), round % 7 < 0 ? 1 : 0);
  }

  private static int upAfterYear(TannerBunting x, String rule) {
    int number = Checks.rule(x, rule);
    if (number < 0) {
      return number;
    }
    x.force(number);
    return x.ahead(1, 1);
  }

  private static void beginOfYear() {
    TannerBunting x = Checks.on("street 1 0;line 0 1 5;line 0 1 6;line 0 1 7");
    Checks.rule(x, "keep up - 2 if line < 2; keep 1");
    x.force(0);
    x.year();
    due("each by how all is at first", x.count(7), 7);
    x.cut(2);
    x.year();
    due("both at once", x.count(7), 0);
    x = Checks.on("street 1 1;line 0 1 5");
    Checks.rule(x, "keep pull - 4");
    x.force(0);
    x.year();
    due("let go ahead of fading", x.count(7), 1);
    x.year();
    due("then it is", x.count(7), 0);
  }

  private static void tightened() {
    TannerBunting x = Checks.on(Checks.SAMPLE);
    due("tighten", x.tighten(0, 9), 15);
    due("much 0", x.tighten(0, 0), -1);
    due("much 10", x.tighten(0, 10), -1);
    due("no line", x.tighten(3, 1), -1);
    due("line below 0", x.tighten(-1, 1), -1);
    for (int i = 0; i < 4; i++) {
      x.tighten(0, 9);
    }
    due("51", x.line(0, 2), 51);
    due("60", x.tighten(0, 9), 60);
    due("60 at most", x.tighten(0, 9), 60);
    due("acts", x.count(11), 7);
    x.cut(2);
    due("one that is not up", x.tighten(2, 1), -1);
    due("without a street", new TannerBunting().tighten(0, 1), -1);
  }

  private static void cutAndHung() {
    TannerBunting x = Checks.on(Checks.STEADY);
    due("cut", x.cut(2), 13);
    due("stand", x.count(6), 2);
    due("up", x.count(7), 0);
    due("cut again", x.cut(2), -1);
    due("no line", x.cut(3), -1);
    due("line below 0", x.cut(-1), -1);
    due("hang at one that fell", x.hang(0, 2, 5), -1);
    due("undo", x.undo(), 0);
    due("up again", x.count(7), 7);
    due("hang", x.hang(1, 2, 40), 3);
    due("lines", x.count(2), 4);
    due("pull 0", x.hang(1, 2, 0), -1);
    due("pull 41", x.hang(1, 2, 41), -1);
    due("odd is even", x.hang(2, 2, 1), -1);
    due("even is odd", x.hang(1, 1, 1), -1);
    due("no such even", x.hang(1, 4, 1), -1);
    due("no such odd", x.hang(-1, 2, 1), -1);
    for (int line = 4; line < 8; line++) {
      due("hang " + line, x.hang(0, 2, 1), line);
    }
    due("eight are up", x.hang(0, 2, 1), -1);
    due("cut 5", x.cut(5), 0);
    due("cut 3", x.cut(3), 0);
    due("the least that is not up", x.hang(0, 3, 7), 3);
    due("its odd", x.line(3, 0), 0);
    due("its even", x.line(3, 1), 3);
    due("its pull", x.line(3, 2), 7);
    due("then", x.hang(1, 3, 2), 5);
    due("eight", x.count(2), 8);
    due("undo a hanging", x.undo(), 8);
    due("its odd then", x.line(5, 0), 0);
    due("it is not up then", x.line(5, 3), 0);
    due("without a street", new TannerBunting().hang(0, 1, 1), -1);
    due("cut without a street", new TannerBunting().cut(0), -1);
  }

  private static void hangingHoldsNobodyYet() {
    TannerBunting x = Checks.on("street 1 0;house 0 9 0;house 1 1 1");
    due("hang", x.hang(0, 1, 3), 0);
    due("nobody falls by it", x.count(6), 3);
    due("but by a cut", x.cut(0), 1);
  }

  private static void props() {
    TannerBunting x = Checks.on(Checks.SAMPLE);
    due("prop", x.prop(3, 3), 4);
    due("much 0", x.prop(3, 0), -1);
    due("much 10", x.prop(3, 10), -1);
    due("no house", x.prop(4, 1), -1);
    due("house below 0", x.prop(-1, 1), -1);
    due("it stands then", x.year(), 0);
    for (int i = 0; i < 6; i++) {
      x.prop(3, 9);
    }
    due("58", x.house(3, 1), 58);
    due("60 at most", x.prop(3, 9), 60);
    due("still", x.prop(3, 9), 60);
    x = Checks.on(Checks.SAMPLE);
    x.year();
    due("one that fell", x.prop(0, 1), -1);
    due("without a street", new TannerBunting().prop(0, 1), -1);
  }

  private static void undone() {
    TannerBunting x = Checks.on(Checks.SAMPLE);
    due("none", x.undo(), -1);
    x.tighten(0, 2);
    x.prop(0, 2);
    x.hang(1, 2, 3);
    x.cut(3);
    x.year();
    due("five", x.count(11), 5);
    due("the year", x.undo(), 4);
    due("year 0", x.count(5), 0);
    due("the cut", x.undo(), 3);
    due("up", x.count(7), 15);
    due("the hanging", x.undo(), 2);
    due("lines", x.count(2), 3);
    due("the prop", x.undo(), 1);
    due("foot", x.house(0, 1), 3);
    due("the tightening", x.undo(), 0);
    due("pull", x.line(0, 2), 6);
    due("no more", x.undo(), -1);
    x.note(1, 0, 1);
    x.seed(5);
    for (int i = 0; i < 25; i++) {
      x.prop(0, 1);
    }
    due("twenty", x.count(11), 20);
    for (int i = 19; i >= 0; i--) {
      due("undo to " + i, x.undo(), i);
    }
    due("the first five stay", x.house(0, 1), 8);
    due("none is left", x.undo(), -1);
    due("notes stay", x.count(10), 1);
    due("x stays", x.count(12), 5);
  }

  public static void main(String[] args) {
    housesAndLines();
    years();
    lastYear();
    ruledYears();
    signsAndRounds();
    beginOfYear();
    tightened();
    cutAndHung();
    hangingHoldsNobodyYet();
    props();
    undone();
    CHECKS.finish();
  }
}

/** Promises 15 to 30: what is asked of the street as it is, and of years to come. */
public final class AskedTest {
  private static final String FADING = "street 1 1;house 0 5 2;house 1 1 1;line 0 1 6";
  private static final String THREE = "street 1 0;house 0 5 0;line 0 1 5;line 0 1 5;line 0 1 2";
  private static final String WEAK = "street 1 0;house 0 9 2;house 1 3 0;line 0 1 3";

  private static final Checks CHECKS = new Checks();

  private static void due(String call, int got, int want) {
    CHECKS.due(call, got, want);
  }

  private static void ahead() {
    TannerBunting x = Checks.on(Checks.SAMPLE);
    due("houses now", x.ahead(0, 0), 15);
    due("lines now", x.ahead(0, 1), 7);
    due("pull now", x.ahead(0, 2), 15);
    due("houses then", x.ahead(1, 0), 2);
    due("lines then", x.ahead(1, 1), 0);
    due("pull then", x.ahead(1, 2), 0);
    due("100", x.ahead(100, 0), 2);
    due("101", x.ahead(101, 0), -1);
    due("-1", x.ahead(-1, 0), -1);
    due("what 3", x.ahead(1, 3), -1);
    due("what -1", x.ahead(1, -1), -1);
    due("nothing changes", x.count(5), 0);
    due("without a street", new TannerBunting().ahead(0, 0), -1);
    x = Checks.on(FADING);
    due("pull in 3", x.ahead(3, 2), 3);
    due("stands in 3", x.ahead(3, 0), 3);
    due("not in 4", x.ahead(4, 0), 2);
    due("houses now, weak ones too", Checks.on(WEAK).ahead(0, 0), 3);
    Checks.rule(x, "keep 1 if year < 2");
    x.force(0);
    due("by the rule in force", x.ahead(2, 0), 3);
    due("by its year", x.ahead(3, 0), 2);
  }

  private static void falling() {
    TannerBunting x = Checks.on(Checks.SAMPLE);
    due("in this year, which is 0", x.falls(0), 0);
    due("least", x.falls(1), 0);
    due("lasts 3", x.lasts(3), 0);
    due("lasts 1", x.lasts(1), -2);
    due("what 2", x.falls(2), -1);
    due("what -1", x.falls(-1), -1);
    due("no house", x.lasts(4), -1);
    due("no house below 0", x.lasts(-1), -1);
    x.year();
    due("in none", x.falls(0), -2);
    due("which in none", x.falls(1), -2);
    due("one that fell", x.lasts(3), -1);
    x = Checks.on(FADING);
    due("in year 3", x.falls(0), 3);
    due("which", x.falls(1), 0);
    due("lasts", x.lasts(0), 3);
    x.year();
    due("in year 3 still", x.falls(0), 3);
    due("lasts to year 3 still", x.lasts(0), 3);
    x.year();
    x.year();
    due("in this year, which is 3", x.falls(0), x.count(5));
    due("lasts to this year", x.lasts(0), x.count(5));
    due("falls by hand", x.year(), 1);
    due("without a street", new TannerBunting().falls(0), -1);
    due("lasts without a street", new TannerBunting().lasts(0), -1);
    x = Checks.on("street 1 0;house 1 5 0;line 0 1 5");
    Checks.rule(x, "keep 199 - year");
    Checks.rule(x, "keep 200 - year");
    x.force(0);
    due("the 200th", x.falls(0), 199);
    due("which of the 200th", x.falls(1), 1);
    due("lasts to the 200th", x.lasts(1), 199);
    x.force(1);
    due("the 201st", x.falls(0), -2);
    due("which of the 201st", x.falls(1), -2);
    due("lasts to the 201st", x.lasts(1), -2);
    x.year();
    due("the 200th from year 1 on", x.falls(0), 200);
    due("lasts to the 200th from year 1 on", x.lasts(1), 200);
    x = Checks.on("street 1 1;house 0 1 0;house 1 4 0;line 0 1 6");
    due("1 falls first, and takes its line", x.falls(0), 2);
    due("least of that year", x.falls(1), 0);
    due("0 by it", x.lasts(0), 2);
  }

  private static void spared() {
    TannerBunting x = Checks.on(Checks.SAMPLE);
    int[] want = {4, 5, 2, 1};
    for (int house = 0; house < 4; house++) {
      due("spare " + house, x.spare(house), want[house]);
    }
    due("no house", x.spare(4), -1000);
    due("below 0", x.spare(-1), -1000);
    x.year();
    due("one that fell", x.spare(0), -1000);
    due("less than lean", Checks.on(WEAK).spare(0), -4);
    due("without a street", new TannerBunting().spare(0), -1000);
  }

  private static void sets() {
    TannerBunting x = Checks.on(Checks.STEADY);
    due("needed", x.needed(), 7);
    due("fewest 3", x.fewest(3, 0), 1);
    due("set 3", x.fewest(3, 1), 1);
    due("fewest 1", x.fewest(1, 0), -2);
    due("set 1", x.fewest(1, 1), -2);
    due("what 2", x.fewest(0, 2), -1);
    due("no house", x.fewest(4, 0), -1);
    due("down", x.down(0), -2);
    due("down's set", x.down(1), -2);
    due("by these", x.byThese(0), 3);
    due("these", x.byThese(1), 7);
    x.hang(1, 2, 6);
    due("needed then", x.needed(), 7);
    x.cut(2);
    due("fewest of one that fell", x.fewest(0, 0), -1);
    x = Checks.on(THREE);
    due("needed of three", x.needed(), 0);
    due("fewest of three", x.fewest(0, 0), 2);
    due("set of three", x.fewest(0, 1), 3);
    due("by these of three", x.byThese(0), 1);
    due("these of three", x.byThese(1), 1);
    x.cut(0);
    due("needed of two", x.needed(), 2);
    due("these of two", x.byThese(1), 2);
    due("set of two", x.fewest(0, 1), 2);
    x = Checks.on(WEAK);
    due("needed of a weak one", x.needed(), 1);
    due("none is cut", x.fewest(0, 0), 0);
    due("no set", x.fewest(0, 1), 0);
    due("1 falls by 0", x.fewest(1, 0), 0);
    due("all fall by none", x.down(0), 0);
    due("all fall, set", x.down(1), 0);
    due("by none all stand", x.byThese(0), -2);
    due("these are none", x.byThese(1), -2);
    x.year();
    due("all are down", x.down(0), 0);
    due("no house can fall", x.byThese(0), 0);
  }

  private static void setsAtEdges() {
    TannerBunting x = Checks.on("street 1 0;house 0 5 0;house 1 3 0;line 0 1 2;line 0 1 3;line 0 1 4");
    due("one by two", x.fewest(1, 0), 2);
    due("down by the 0 that falls first", x.down(0), 2);
    due("down's set", x.down(1), 3);
    due("by these", x.byThese(0), 2);
    due("these, the least", x.byThese(1), 3);
    due("down of 2", x.down(2), -1);
    due("down of -1", x.down(-1), -1);
    due("byThese of 2", x.byThese(2), -1);
    due("byThese of -1", x.byThese(-1), -1);
    x = Checks.on("street 1 0;house 0 5 0;line 0 1 1;line 0 1 1;line 0 1 4");
    due("one is fewer than two", x.fewest(0, 0), 1);
    due("though its set comes later", x.fewest(0, 1), 4);
    x = Checks.on("street 1 0;house 0 5 0;line 0 1 1;line 0 1 1;line 0 1 4;line 0 1 1");
    due("the one of one", x.fewest(0, 1), 4);
    due("two are kept", x.byThese(1), 5);
    x = Checks.on("street 1 0;house 0 1 0;house 1 1 0" + ";line 0 1 1".repeat(8));
    due("all eight", x.down(0), 8);
    due("all eight, set", x.down(1), 255);
    x = Checks.on("street 1 0;house 0 8 0;house 1 1 0" + ";line 0 1 1".repeat(8));
    due("all eight are needed", x.needed(), 255);
    due("by all eight", x.byThese(1), 255);
    TannerBunting none = new TannerBunting();
    due("needed without a street", none.needed(), -1);
    due("fewest without a street", none.fewest(0, 0), -1);
    due("down without a street", none.down(0), -1);
    due("byThese without a street", none.byThese(0), -1);
  }

  private static void ways() {
    TannerBunting x = Checks.on(Checks.STEADY);
    due("itself", x.way(2, 2), 0);
    due("one", x.way(0, 3), 1);
    due("two", x.way(0, 1), 2);
    due("three", x.way(2, 1), 3);
    due("no house", x.way(0, 4), -1);
    due("no other", x.way(-1, 0), -1);
    due("blocks", x.blocks(-1), 1);
    due("all", x.blocks(3), 15);
    x.cut(2);
    due("fallen to itself", x.way(0, 0), 0);
    due("none", x.way(0, 1), -2);
    due("blocks then", x.blocks(-1), 1);
    due("alone", x.blocks(1), 2);
    due("of one that fell", x.blocks(0), -2);
    due("no such house", x.blocks(4), -2);
    due("below NONE", x.blocks(-2), -2);
    due("way without a street", new TannerBunting().way(0, 0), -1);
    due("blocks without a street", new TannerBunting().blocks(-1), -2);
    x = Checks.on("street 2 0;line 0 2 1");
    due("three blocks", x.blocks(-1), 3);
    due("two of them", x.blocks(2), 5);
    x = Checks.on("street 5 0;line 0 5 1;line 1 5 1;line 1 6 1;line 2 6 1;line 2 7 1;line 3 7 1;line 3 8 1;line 4 8 1");
    due("eight", x.way(0, 4), 8);
    due("nine of ten", x.blocks(0), 511);
    due("two blocks", x.blocks(-1), 2);
    due("no way", x.way(9, 4), -2);
  }

  private static void proppedUp() {
    TannerBunting x = Checks.on(FADING);
    due("0", x.propped(0, 3), 0);
    due("1", x.propped(0, 4), 1);
    due("2", x.propped(0, 5), 2);
    due("3", x.propped(0, 40), 3);
    due("n 0", x.propped(0, 0), -1);
    due("n 41", x.propped(0, 41), -1);
    due("no house", x.propped(2, 1), -1);
    due("without a street", new TannerBunting().propped(0, 1), -1);
    for (int i = 0; i < 4; i++) {
      x.year();
    }
    due("one that fell", x.propped(0, 1), -1);
    due("60", Checks.on("street 1 0;house 0 60 0").propped(0, 1), 60);
  }

  private static void married() {
    TannerBunting x = Checks.on(Checks.STEADY);
    due("pairs", x.marry(-1), 2);
    due("0", x.marry(0), 2);
    due("1", x.marry(1), 3);
    due("none such", x.marry(2), -2);
    due("none such at 4", x.marry(4), -2);
    due("5", x.marry(5), -3);
    due("-2", x.marry(-2), -3);
    due("without a street", new TannerBunting().marry(-1), -3);
    x = Checks.on("street 2 0;line 0 2 1;line 1 2 1");
    due("one pair", x.marry(-1), 1);
    due("nobody ahead", x.marry(0), -1);
    due("the other", x.marry(1), 2);
    x = Checks.on("street 2 0;line 0 3 1;line 0 2 1;line 1 2 1;line 1 3 1");
    due("least even one", x.marry(0), 2);
    due("then", x.marry(1), 3);
    x = Checks.on("street 3 0;line 0 3 1;line 1 3 1;line 1 4 1;line 2 4 1");
    due("two pairs of three", x.marry(-1), 2);
    due("0 with nobody", x.marry(0), -1);
    due("1 with 3", x.marry(1), 3);
    due("2 with 4", x.marry(2), 4);
    due("the second alone", Checks.on("street 2 0;line 1 2 1").marry(-1), 1);
    due("no lines", Checks.on("street 5 0").marry(-1), 0);
    due("with nobody", Checks.on("street 5 0").marry(4), -1);
  }

  private static void newLines() {
    TannerBunting x = Checks.on(FADING);
    due("most", x.newLine(5, 4, 0), 2);
    due("odd", x.newLine(5, 4, 1), 0);
    due("even", x.newLine(5, 4, 2), 1);
    due("too little", x.newLine(4, 4, 0), 1);
    due("none", x.newLine(4, 4, 1), -1);
    due("none's even", x.newLine(4, 4, 2), -1);
    due("none is as good", x.newLine(40, 3, 1), -1);
    int[][] wrong = {{0, 1, 0}, {41, 1, 0}, {1, 0, 0}, {1, 41, 0}, {1, 1, 3}, {1, 1, -1}};
    for (int[] call : wrong) {
      due("newLine wrong", x.newLine(call[0], call[1], call[2]), -2);
    }
    due("without a street", new TannerBunting().newLine(1, 1, 0), -2);
    due("nothing changes", x.count(2), 1);
    x = Checks.on("street 1 0;house 0 9 0" + ";line 0 1 1".repeat(8));
    due("eight are up", x.newLine(40, 1, 0), 1);
    due("so none", x.newLine(40, 1, 1), -1);
    x = Checks.on("street 2 0;house 1 4 0;house 3 4 0");
    due("best of four", x.newLine(4, 1, 0), 4);
    due("best odd", x.newLine(4, 1, 1), 1);
    due("best even", x.newLine(4, 1, 2), 3);
    Checks.rule(x, "keep line");
    x.force(0);
    due("as by hang it is line 0", x.newLine(4, 1, 0), 2);
  }

  private static void rested() {
    TannerBunting x = Checks.on(Checks.STEADY);
    due("two", x.rests(0, 1, 3, 0), 2);
    due("one holds", x.rests(0, 1, 3, 1), 0);
    due("other holds", x.rests(0, 1, 3, 2), 0);
    Checks.rule(x, "keep 1 if up < 3");
    x.force(0);
    // By holding both all lines go in the first year; 0 has nothing either way, 1 stands.
    due("four", x.rests(0, 1, 3, 0), 4);
    int[][] wrong = {{0, 0, 1, 0}, {0, 4, 1, 0}, {-1, 0, 1, 0}, {0, 1, 0, 0}, {0, 1, 21, 0}, {0, 1, 1, 3}, {0, 1, 1, -1}};
    for (int[] call : wrong) {
      due("rests wrong", x.rests(call[0], call[1], call[2], call[3]), -1);
    }
    x.cut(2);
    due("one that fell", x.rests(1, 0, 1, 0), -1);
    due("without a street", new TannerBunting().rests(0, 1, 1, 0), -1);
    // Of three lines all are let go, of two none: letting the single one of house 1 go saves house 0.
    x = Checks.on("street 2 0;house 0 5 0;line 0 2 3;line 0 3 2;line 1 3 1");
    Checks.rule(x, "keep 1 if up < 3");
    x.force(0);
    due("rests of 0 and 1", x.rests(0, 1, 2, 0), 3);
    due("0 holds at first", x.rests(0, 1, 2, 1), 0);
    due("1, too", x.rests(0, 1, 2, 2), 0);
    // Here house 1 falls itself, if all lines are let go.
    x = Checks.on("street 2 0;house 0 5 0;house 1 1 0;line 0 2 3;line 0 3 2;line 1 3 1;line 1 2 1");
    Checks.rule(x, "keep 1 if up < 4");
    x.force(0);
    due("but for both letting go", x.rests(0, 1, 2, 0), 3);
    // A house that stands by its line alone can't let it go.
    x = Checks.on("street 1 0;house 0 1 0;house 1 1 0;line 0 1 1");
    due("both hold, or both let go", x.rests(0, 1, 1, 0), 2);
    x = Checks.on("street 2 0;line 0 2 1;line 1 3 1");
    due("each would hold", x.rests(0, 1, 1, 0), 1);
    due("for 20 years", x.rests(0, 1, 20, 0), 1);
    x = Checks.on("street 1 1;line 0 1 3");
    due("the line is up behind the second year", x.rests(0, 1, 2, 0), 2);
    due("not behind the third", x.rests(0, 1, 3, 0), 4);
  }

  private static void parted() {
    TannerBunting x = Checks.on(Checks.STEADY);
    int[] want = {34, 14, 21, 31};
    for (int house = 0; house < 4; house++) {
      due("pence of " + house, x.pence(100, house), want[house]);
    }
    due("none", x.pence(0, 0), 0);
    due("9999", x.pence(9999, 0) + x.pence(9999, 1) + x.pence(9999, 2) + x.pence(9999, 3), 9999);
    due("10000", x.pence(10000, 0), -1);
    due("-1", x.pence(-1, 0), -1);
    due("no house", x.pence(1, 4), -1);
    x.cut(2);
    due("one that fell", x.pence(100, 0), 0);
    due("all to one", x.pence(100, 1), 100);
    x = Checks.on("street 1 0;house 0 1 1;house 1 1 1");
    due("the least first", x.pence(3, 0), 2);
    due("then", x.pence(3, 1), 1);
    due("nothing leans", Checks.on("street 1 0").pence(9, 0), 0);
    due("without a street", new TannerBunting().pence(1, 0), -1);
  }

  public static void main(String[] args) {
    ahead();
    falling();
    spared();
    sets();
    setsAtEdges();
    ways();
    proppedUp();
    married();
    newLines();
    rested();
    parted();
    CHECKS.finish();
  }
}

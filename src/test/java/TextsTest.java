/** Promises 1 to 6: a new object, feed, end, street, rule, force; and all faults. */
public final class TextsTest {
  private static final Checks CHECKS = new Checks();

  private static void due(String call, int got, int want) {
    CHECKS.due(call, got, want);
  }

  private static void badStreet(String text, int place, int kind) {
    due("street of " + text, Checks.street(new TannerBunting(), text), Checks.fault(place, kind));
  }

  private static void badRule(String text, int place, int kind) {
    due("rule of " + text, Checks.rule(new TannerBunting(), text), Checks.fault(place, kind));
  }

  private static void goodRule(String text) {
    due("rule of " + text, Checks.rule(new TannerBunting(), text), 0);
  }

  private static void newObject() {
    TannerBunting x = new TannerBunting();
    int[] counts = {0, 0, 0, 0, -1, 0, 0, 0, 0, 0, 0, 0, 0, 0};
    for (int what = 0; what < counts.length; what++) {
      due("count(" + what + ") of a new one", x.count(what), counts[what]);
    }
    due("force(0) of a new one", x.force(0), -2);
    due("back(0) of a new one", x.back(0), -1);
    due("undo() of a new one", x.undo(), -1);
    due("house(0, 0) of a new one", x.house(0, 0), -1);
    due("line(0, 0) of a new one", x.line(0, 0), -1);
    due("NONE", TannerBunting.NONE, -1);
  }

  private static void feedAndEnd() {
    TannerBunting x = new TannerBunting();
    due("end(0)", x.end(0), 0);
    due("end(1) of none", x.end(1), -1);
    for (int n = 20; n <= 400; n += 20) {
      due("feed to " + n, x.feed(0x73747265, 0x65742031, 0x20302020, 0x20202020, 0x20202020), n);
    }
    due("feed beyond 400", x.feed(1, 2, 3, 4, 5), -1);
    due("tape stays", x.count(13), 400);
    due("end(401)", x.end(401), -1);
    due("end(-1)", x.end(-1), -1);
    due("end(400)", x.end(400), 400);
    due("end(381)", x.end(381), 381);
    due("feed to 401", x.feed(1, 2, 3, 4, 5), -1);
    due("tape stays at 381", x.count(13), 381);
    due("end(20)", x.end(20), 20);
    due("highest byte first", x.street(), 0);
    due("tape is empty then", x.count(13), 0);
    due("LONG", x.count(0), 1);
    x.feed(-1, -1, -1, -1, -1);
    due("byte 255 can't stand", x.street(), Checks.fault(0, 0));
    due("tape is empty by a fault, too", x.count(13), 0);
    due("feed behind a fault", x.feed(1, 2, 3, 4, 5), 20);
  }

  private static void streets() {
    due("sample", Checks.street(new TannerBunting(), Checks.SAMPLE), 3);
    TannerBunting x = Checks.on("  street5 9;house 9 60 30 ;house 9 00059 00029;line 4 5 40;line0 9 1;line 0 9 1  ");
    due("LONG 5", x.count(0), 5);
    due("FADES 9", x.count(1), 9);
    due("LINES", x.count(2), 3);
    due("last told lean", x.house(9, 0), 59);
    due("last told foot", x.house(9, 1), 29);
    due("lean without", x.house(0, 0), 0);
    due("foot without", x.house(0, 1), 0);
    due("all stand", x.count(6), 1023);
    due("all up", x.count(7), 7);
    due("same two", x.house(9, 3), 6);
    x = Checks.on("street 1 0;house 0 60 0");
    due("stands whatever holds it", x.house(0, 2), 1);
  }

  /** Behind a fault the tape is empty, and all but the tape as it was. */
  private static void faultEmptiesTapeAlone() {
    TannerBunting x = Checks.on(Checks.SAMPLE);
    Checks.rule(x, "keep pull");
    x.force(0);
    x.seed(77);
    x.note(1, 0, 1);
    x.tighten(0, 9);
    x.image(2);
    x.year();
    int[] before = counts(x);
    String[] faulty = {"", " ", "street 1 1;", "street 1 1;house 0 9 9;line 0 0 1", "keep 1 if"};
    for (String text : faulty) {
      due("street of " + text, Checks.street(x, text) < -2 ? 1 : 0, 1);
      stays(x, before, "street of " + text);
      due("the end of the tape, behind " + text, x.street(), Checks.fault(0, 0));
      due("rule of " + text, Checks.rule(x, text) < -2 ? 1 : 0, 1);
      stays(x, before, "rule of " + text);
      due("the end of the tape, behind " + text, x.rule(), Checks.fault(0, 0));
    }
    due("feed behind faults", x.feed(0, 0, 0, 0, 0), 20);
    due("house 0 is as it was", x.house(0, 0), 10);
    due("two acts are left", x.undo(), 1);
    due("one act is left", x.undo(), 0);
    due("line 0 pulls as told", x.line(0, 2), 6);
    due("the image stays", x.back(2), 0);
    due("line 0 pulls as in it", x.line(0, 2), 15);
  }

  private static int[] counts(TannerBunting x) {
    int[] counts = new int[14];
    for (int what = 0; what < counts.length; what++) {
      counts[what] = x.count(what);
    }
    return counts;
  }

  private static void stays(TannerBunting x, int[] before, String behind) {
    for (int what = 0; what < before.length; what++) {
      due("count(" + what + ") behind " + behind, x.count(what), before[what]);
    }
  }

  private static void streetInPlace() {
    TannerBunting x = Checks.on(Checks.SAMPLE);
    Checks.rule(x, "keep 1");
    x.force(0);
    x.seed(77);
    x.note(1, 0, 1);
    x.year();
    due("another street", Checks.street(x, "street 1 3;line 0 1 4"), 1);
    due("year 0", x.count(5), 0);
    due("no notes", x.count(10), 0);
    due("nothing to undo", x.count(11), 0);
    due("force stays", x.count(4), 0);
    due("x stays", x.count(12), 77);
    due("rules stay", x.count(3), 1);
    due("stand anew", x.count(6), 3);
  }

  private static void streetFaults() {
    badStreet("", 0, 0);
    badStreet("   ", 3, 0);
    badStreet("street", 6, 0);
    badStreet("street 1", 8, 0);
    badStreet("street 0 0", 7, 1);
    badStreet("street 6 0", 7, 1);
    badStreet("street 1 10", 9, 1);
    badStreet("street 000001 0", 7, 1);
    badStreet("street x 0", 7, 0);
    badStreet("street -1 0", 7, 0);
    badStreet("streets 1 0", 0, 0);
    badStreet("Street 1 0", 0, 0);
    badStreet("street 1 0;", 11, 0);
    badStreet("street 1 0; ;", 12, 0);
    badStreet("street 1 0 1", 11, 0);
    badStreet("street 1 0 1234567", 11, 0);
    badStreet("house 0 0 0", 0, 4);
    badStreet(" line 0 0 0", 1, 4);
    badStreet("street 1 0;street 1 0", 11, 4);
    badStreet("street 1 0;street", 11, 4);
    badStreet("street 1 0;house 2 0 0", 17, 1);
    badStreet("street 1 0;house 0 61 0", 19, 1);
    badStreet("street 1 0;house 0 0 31", 21, 1);
    badStreet("street 1 0;house 0 0", 20, 0);
    badStreet("street 1 0;line 1 1 1", 16, 1);
    badStreet("street 1 0;line 0 0 1", 18, 1);
    badStreet("street 1 0;line 0 2 1", 18, 1);
    badStreet("street 1 0;line 0 1 0", 20, 1);
    badStreet("street 1 0;line 0 1 41", 20, 1);
    badStreet("street 1 0;keep 1", 11, 0);
    badStreet("street 1 0\t", 10, 0);
    String eight = "street 1 0" + ";line 0 1 1".repeat(8);
    due("eight lines", Checks.street(new TannerBunting(), eight), 8);
    badStreet(eight + ";line 0 1 1", eight.length() + 1, 4);
    badStreet(eight + ";lines 0 1 1", eight.length() + 1, 0);
  }

  private static void rules() {
    TannerBunting x = new TannerBunting();
    for (int n = 0; n < 6; n++) {
      due("rule " + n, Checks.rule(x, "keep pull - " + n), n);
      due("tape is empty", x.count(13), 0);
    }
    due("a seventh", Checks.rule(x, "keep 1"), -1);
    due("nothing happens", x.count(13), 6);
    due("a seventh, faulty", Checks.rule(x, "keep"), -1);
    due("nothing happens then", x.count(13), 4);
    due("six", x.count(3), 6);
    due("force(5)", x.force(5), -1);
    due("force(6)", x.force(6), -2);
    due("force(-2)", x.force(-2), -2);
    due("stays", x.count(4), 5);
    due("force(NONE)", x.force(-1), 5);
    due("none", x.count(4), -1);
    x = new TannerBunting();
    due("a fault", Checks.rule(x, "keep 1 if"), Checks.fault(9, 0));
    due("no rule by it", x.count(3), 0);
    due("tape is empty by a fault, too", x.count(13), 0);
    due("a rule behind a fault", Checks.rule(x, "keep 1"), 0);
  }

  private static void ruleFaults() {
    badRule("", 0, 0);
    badRule("keep", 4, 0);
    badRule("keeps 1", 0, 0);
    badRule("keep x", 5, 0);
    badRule("keep 1;", 7, 0);
    badRule("keep 1 if", 9, 0);
    badRule("keep 1 if pull", 14, 0);
    badRule("keep 1 if pull = 1]", 18, 0);
    badRule("keep 1 if [pull = 1", 19, 0);
    badRule("keep 5 %", 8, 0);
    badRule("keep 5 5", 7, 0);
    badRule("keep -5", 5, 0);
    badRule("keep 123456", 5, 1);
    badRule("keep 1 123456", 7, 0);
    badRule("keep 1 if 1 = 2 = 3", 16, 0);
    badRule("keep 1 if 1 < = 3", 14, 0);
    badRule("keep 1 if 1 => 3", 13, 0);
    badRule("keep 1 if not", 13, 0);
    badRule("keep 1 if 1 = 2 and", 19, 0);
    badRule("keep 1 if 1 = 2 or or", 19, 0);
    badRule("keep [1]", 5, 0);
    badRule("keep house", 5, 0);
    badRule("keep 1 if 1 = [2]", 14, 0);
    badRule("keep 1 if []", 11, 0);
    badRule("street 1 0", 0, 0);
    badRule("keep 1 if pull1 = 2", 14, 0);
    badRule("keep 1 or 2", 7, 0);
    goodRule("keep99999if[1<=pull]and not[2>=3or line=4]");
    goodRule("  keep line+odd-even*pull/leanodd%leaneven + footodd if footeven<up or standing>fades and year=0 ; keep 0 ");
  }

  private static void limits() {
    String twelve = "keep 1" + ";keep 1".repeat(11);
    goodRule(twelve);
    badRule(twelve + ";keep 1", twelve.length() + 1, 4);
    badRule(twelve + "; keep", twelve.length() + 2, 4);
    badRule(twelve + ";keeps", twelve.length() + 1, 0);
    badRule(twelve + ";", twelve.length() + 1, 0);
    goodRule("keep 1 if " + "not ".repeat(10) + "1 = 1");
    badRule("keep 1 if " + "not ".repeat(11) + "1 = 1", 50, 2);
    goodRule("keep 1 if " + "[".repeat(10) + "1 = 1" + "]".repeat(10));
    badRule("keep 1 if " + "[".repeat(11) + "1 = 1" + "]".repeat(11), 20, 2);
    badRule("keep 1 if " + "[not ".repeat(5) + "not 1 = 1" + "]".repeat(5), 35, 2);
    goodRule("keep 1 if " + "[not ".repeat(5) + "1 = 1" + "]".repeat(5) + "or not" + " not".repeat(9) + " 1=1");
    String sixty = "keep 1" + "+1".repeat(59);
    goodRule(sixty);
    badRule(sixty + "+1", sixty.length() + 1, 3);
    badRule(sixty + "+pull", sixty.length() + 1, 3);
    badRule(sixty + "+x", sixty.length() + 1, 0);
    badRule(sixty + "+123456", sixty.length() + 1, 1);
    badRule(sixty + ";keep 1", sixty.length() + 6, 3);
    badRule(sixty + " if not 1", sixty.length() + 8, 3);
    String fact = "keep 1" + "+1".repeat(56) + " if 1=1";
    goodRule(fact);
    badRule(fact + " and 1=1", fact.length() + 5, 3);
    String signs = "keep 1" + "+1".repeat(58) + " if 1";
    badRule(signs + "=1", signs.length(), 3);
    badRule(signs + " ;", signs.length() + 1, 0);
    String last = "keep 1" + "+1".repeat(57) + " if 1 =";
    badRule(last + " 1", last.length() + 1, 3);
    goodRule("keep 1" + " ".repeat(394));
    badRule("keep 1 +" + " ".repeat(392), 400, 0);
  }

  public static void main(String[] args) {
    newObject();
    feedAndEnd();
    streets();
    faultEmptiesTapeAlone();
    streetInPlace();
    streetFaults();
    rules();
    ruleFaults();
    limits();
    CHECKS.finish();
  }
}

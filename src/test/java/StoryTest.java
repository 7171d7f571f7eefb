/** Promises 28 and 31 to 38: pulls and rules by notes, look, seed, winters, count, image, back. */
public final class StoryTest {
  private static final String FADING = "street 1 1;house 0 5 2;house 1 1 1;line 0 1 6";

  private static final Checks CHECKS = new Checks();

  private static void due(String call, int got, int want) {
    CHECKS.due(call, got, want);
  }

  private static void notes() {
    TannerBunting x = Checks.on(FADING);
    due("first", x.note(0, 0, 1), 1);
    due("second", x.note(60, 1, 0), 2);
    int[][] wrong = {{61, 0, 0}, {-2, 0, 0}, {1, 2, 0}, {1, -1, 0}, {1, 0, 2}, {1, 0, -1}};
    for (int[] call : wrong) {
      due("note wrong", x.note(call[0], call[1], call[2]), -2);
    }
    for (int n = 3; n <= 10; n++) {
      due("note " + n, x.note(0, 0, 1), n);
    }
    due("eleventh", x.note(0, 0, 1), -2);
    due("ten", x.count(10), 10);
    due("none then", x.note(-1, 9, 9), 0);
    due("none", x.count(10), 0);
    due("without a street", new TannerBunting().note(0, 0, 1), -2);
    due("none without a street", new TannerBunting().note(-1, 0, 0), 0);
  }

  private static void pulls() {
    TannerBunting x = Checks.on(FADING);
    due("all", x.pulled(0, 0), 40);
    due("least of all", x.pulled(0, 1), 1);
    x.note(4, 0, 1);
    due("from 8", x.pulled(0, 0), 33);
    due("8", x.pulled(0, 1), 8);
    x.note(6, 0, 0);
    due("two", x.pulled(0, 0), 2);
    x.tighten(0, 9);
    x.year();
    due("from the begin on", x.pulled(0, 1), 8);
    x.note(4, 0, 0);
    due("none", x.pulled(0, 0), 0);
    due("no least", x.pulled(0, 1), -2);
    x.note(-1, 0, 0);
    Checks.rule(x, "keep pull - 5");
    x.force(0);
    x.note(4, 0, 1);
    due("by the rule in force", x.pulled(0, 1), 10);
    due("what 2", x.pulled(0, 2), -1);
    due("what -1", x.pulled(0, -1), -1);
    due("no line", x.pulled(1, 0), -1);
    due("below 0", x.pulled(-1, 0), -1);
    due("hang", x.hang(0, 1, 5), 1);
    due("one that the text did not tell", x.pulled(1, 0), -1);
    due("without a street", new TannerBunting().pulled(0, 0), -1);
  }

  /** Behind the n-th year n + 1 have gone by, as the first is year 0. */
  private static void pullsAtEdges() {
    TannerBunting x = Checks.on("street 1 1;house 0 9 0;line 0 1 9");
    x.note(0, 0, 1);
    due("10 and more stand behind year 0", x.pulled(0, 0), 31);
    due("10", x.pulled(0, 1), 10);
    x.note(-1, 0, 0);
    x.note(0, 0, 0);
    due("9 and less don't", x.pulled(0, 0), 9);
    due("1", x.pulled(0, 1), 1);
    x = Checks.on("street 1 0;house 0 1 0;line 0 1 1");
    Checks.rule(x, "keep 60 - year");
    Checks.rule(x, "keep 61 - year");
    x.note(60, 0, 0);
    due("not without a rule", x.pulled(0, 0), 0);
    x.force(0);
    due("let go in year 60", x.pulled(0, 0), 40);
    x.force(1);
    due("let go in year 61", x.pulled(0, 1), -2);
    due("one rule", x.ruled(0), 1);
    due("which lets go in year 60", x.ruled(1), 0);
    x.note(-1, 0, 0);
    due("one of three behind year 60", x.look(60, 1), 2);
    due("by house 0", x.look(60, 0), 0);
    due("none of three behind year 59", x.look(59, 1), 3);
    x.note(59, 0, 1);
    due("all three", x.ruled(0), 3);
  }

  /** By none and by rule 0 house 0 falls in year 3, by 1 in year 1, by 2 in year 0. */
  private static TannerBunting ruledStreet() {
    TannerBunting x = Checks.on(FADING);
    Checks.rule(x, "keep 1");
    Checks.rule(x, "keep pull - 5");
    Checks.rule(x, "keep 0");
    return x;
  }

  private static void rules() {
    TannerBunting x = ruledStreet();
    due("all four", x.ruled(0), 4);
    due("none first", x.ruled(1), -1);
    x.note(2, 0, 0);
    due("two", x.ruled(0), 2);
    due("1 first", x.ruled(1), 1);
    x.year();
    x.force(2);
    x.note(0, 0, 1);
    due("one", x.ruled(0), 1);
    due("1", x.ruled(1), 1);
    x.note(3, 0, 1);
    due("no rule", x.ruled(0), 0);
    due("none such", x.ruled(1), -2);
    due("look without one", x.look(1, 0), -2);
    due("how many without one", x.look(1, 1), -2);
    due("what 2", x.ruled(2), -3);
    x.note(-1, 0, 0);
    x.note(3, 0, 0);
    due("all fell by year 3", x.ruled(0), 4);
    x.note(2, 0, 1);
    due("two stood behind year 2", x.ruled(0), 2);
    due("none first of these", x.ruled(1), -1);
    due("what -1", x.ruled(-1), -3);
    due("without a street", new TannerBunting().ruled(0), -3);
  }

  private static void looks() {
    TannerBunting x = ruledStreet();
    due("behind 0", x.look(0, 0), 0);
    due("three alike", x.look(0, 1), 3);
    due("behind 1", x.look(1, 0), 0);
    due("two alike", x.look(1, 1), 2);
    due("two alike still", x.look(2, 1), 2);
    due("behind 3", x.look(3, 0), 0);
    due("all alike", x.look(3, 1), 4);
    due("behind 60", x.look(60, 1), 4);
    x.note(2, 0, 0);
    due("one alike", x.look(0, 1), 1);
    due("both alike", x.look(1, 1), 2);
    due("n 61", x.look(61, 0), -1);
    due("n -1", x.look(-1, 0), -1);
    due("what 2", x.look(0, 2), -1);
    due("what -1", x.look(0, -1), -1);
    due("without a street", new TannerBunting().look(0, 0), -1);
    x = Checks.on("street 1 0;house 1 5 0;line 0 1 5");
    Checks.rule(x, "keep 0");
    due("the other house", x.look(0, 0), 1);
    due("one each", x.look(0, 1), 1);
  }

  private static void seeds() {
    TannerBunting x = new TannerBunting();
    due("0 at first", x.seed(5), 0);
    due("then 5", x.seed(2147483647), 5);
    due("below 0", x.seed(-1), -1);
    due("stays", x.count(12), 2147483647);
    due("0 is a number", x.seed(0), 2147483647);
    due("0 then", x.count(12), 0);
  }

  /** Draws from 0: 0, 21468, 9988, 22117; from 1: 16838, 5758. */
  private static void winters() {
    TannerBunting x = Checks.on("street 1 0");
    due("no snow", x.winters(10, 60, 0, 0), 20);
    due("house 0 falls", x.winters(1, 1, 1, 0), 1);
    due("not by the second", x.winters(2, 1, 1, 0), 3);
    due("both times", x.winters(2, 1, 100, 0), 2);
    due("both houses in one", x.winters(1, 2, 100, 0), 0);
    due("x as it was", x.count(12), 0);
    x.seed(1);
    due("38 is not below 38", x.winters(1, 1, 38, 0), 2);
    due("but below 39", x.winters(1, 1, 39, 0), 1);
    due("nothing stays", x.count(6), 3);
    due("no lean stays", x.house(0, 0), 0);
    x = Checks.on("street 1 0;line 0 1 1");
    due("lines", x.winters(3, 1, 100, 1), 3);
    due("two on two", x.winters(1, 2, 100, 0), 2);
    int[][] wrong = {{0, 1, 1, 0}, {11, 1, 1, 0}, {1, 0, 1, 0}, {1, 61, 1, 0},
        {1, 1, -1, 0}, {1, 1, 101, 0}, {1, 1, 1, 2}, {1, 1, 1, -1}};
    for (int[] call : wrong) {
      due("winters wrong", x.winters(call[0], call[1], call[2], call[3]), -1);
    }
    due("without a street", new TannerBunting().winters(1, 1, 1, 0), -1);
  }

  private static void counts() {
    TannerBunting x = ruledStreet();
    Checks.tape(x, "keep");
    x.seed(9);
    x.force(2);
    x.note(1, 1, 1);
    x.prop(0, 4);
    x.prop(0, 4);
    x.year();
    int[] want = {1, 1, 1, 3, 2, 1, 3, 0, 0, 6, 1, 3, 9, 4};
    for (int what = 0; what < want.length; what++) {
      due("count(" + what + ")", x.count(what), want[what]);
    }
    due("count(14)", x.count(14), -1);
    due("count(-1)", x.count(-1), -1);
    x = Checks.on(Checks.SAMPLE);
    due("pull of all", x.count(8), 15);
    due("lean of all", x.count(9), 29);
    x.year();
    due("lean of one", x.count(9), 4);
  }

  private static void images() {
    TannerBunting x = ruledStreet();
    x.force(1);
    x.seed(3);
    x.note(2, 0, 0);
    x.year();
    due("image", x.image(3), 1);
    due("no image 4", x.image(4), -1);
    due("no image -1", x.image(-1), -1);
    due("never made", x.back(0), -1);
    due("no back 4", x.back(4), -1);
    due("no back -1", x.back(-1), -1);
    Checks.street(x, Checks.SAMPLE);
    Checks.rule(x, "keep 3");
    Checks.tape(x, "abc");
    x.force(-1);
    x.seed(4);
    x.year();
    x.year();
    due("of another street", x.image(0), 2);
    due("back", x.back(3), 1);
    int[] want = {1, 1, 1, 4, 1, 1, 3, 1, 5, 6, 1, 0, 3, 3};
    for (int what = 0; what < want.length; what++) {
      due("count(" + what + ") back", x.count(what), want[what]);
    }
    due("nothing to undo", x.undo(), -1);
    due("notes are as they were", x.ruled(0), 2);
    due("what was told, too", x.pulled(0, 0), 7);
    x.cut(0);
    due("back once more", x.back(3), 1);
    due("up again", x.count(7), 1);
    due("the other", x.back(0), 2);
    due("its street", x.count(0), 2);
    due("one house", x.count(6), 2);
    x = new TannerBunting();
    due("image of none", x.image(1), 0);
    Checks.street(x, Checks.SAMPLE);
    x.year();
    due("back to none", x.back(1), 0);
    due("no street", x.year(), -1);
    due("no house", x.house(0, 0), -1);
    due("no long", x.count(0), 0);
  }

  public static void main(String[] args) {
    notes();
    pulls();
    pullsAtEdges();
    rules();
    looks();
    seeds();
    winters();
    counts();
    images();
    CHECKS.finish();
  }
}

/** Boundaries of promises 31 to 38: note, ruled, look, seed, winters, count, image, back. */
final class EdgesOfStory {
  private static final String BY_LINE = "street 1 0;house 0 5 0;line 0 1 5";
  private static final int LAST = 2147483647;

  private EdgesOfStory() {
  }

  static void run(Edges d) {
    note(d);
    noteTen(d);
    ruled(d);
    look(d);
    lookParting(d);
    seed(d);
    draws(d);
    winters(d);
    wintersBounds(d);
    count(d);
    image(d);
    back(d);
  }

  /** By rule 0 house 0 falls in the year before the last told here, by rule 1 in the last, by rule 2 one behind it. */
  private static Edge threeRules(Edge e, int last) {
    e.on(BY_LINE).rule(0, "keep " + (last - 1) + "-year").rule(1, "keep " + last + "-year");
    return e.rule(2, "keep " + (last + 1) + "-year");
  }

  private static void note(Edges d) {
    Edge e = d.at(31, "behind the n-th YEAR of all (0 to 60) a HOUSE STOOD (1), or not (0)").rich();
    e.beyond(-2, -1, 60, "note", 0, 0, 0, 0).beyond(-2, 0, 3, "note", 1, 0, 0, 0).beyond(-2, 0, 1, "note", 2, 0, 0, 0);
    e.does(3, "note", 0, 0, 0).does(4, "note", 60, 3, 1).does(5, "note", 0, 3, 0).does(6, "note", 60, 0, 1);
    e.on("street 1 0").beyond(-2, 0, 1, "note", 1, 0, 0, 0).does(1, "note", 60, 1, 1).does(2, "note", 0, 0, 1);
    e.on("street 5 0").beyond(-2, 0, 9, "note", 1, 0, 0, 0).does(1, "note", 0, 9, 1).asks(1, "ruled", 0);
    // Behind year 60: by rule 0 and 1 house 0 fell, by rule 2 and by none it stood.
    threeRules(e, 60).does(1, "note", 60, 0, 0).asks(2, "ruled", 0).asks(0, "ruled", 1).does(0, "note", -1, 0, 0);
    e.does(1, "note", 60, 0, 1).asks(2, "ruled", 0).asks(-1, "ruled", 1).does(2, "note", 59, 0, 0).asks(0, "ruled", 0);
    // Of house 1, which falls by none of them.
    e.does(0, "note", -1, 0, 0).does(1, "note", 60, 1, 1).asks(4, "ruled", 0).does(2, "note", 60, 1, 0);
    e.asks(0, "ruled", 0);
    // Behind year 0: by rule 0 and 1 it fell.
    e.on(BY_LINE).rule(0, "keep 0").rule(1, "keep 0-year").rule(2, "keep 1-year").does(1, "note", 0, 0, 1);
    e.asks(2, "ruled", 0).asks(-1, "ruled", 1).does(2, "note", 1, 0, 0).asks(1, "ruled", 0).asks(2, "ruled", 1);

    e = d.at(31, "-2, and nothing happens, without these, or if there are 10").asks(-2, "note", 0, 0, 0);
    e.asks(-2, "note", 60, 1, 1).rich().asks(-2, "note", 61, 4, 2).asks(-2, "note", -2, -1, -1).asks(2, "count", 10);
  }

  private static void noteTen(Edges d) {
    Edge e = d.at(31, "NOTES 0 to 9, told").on("street 1 0");
    for (int notes = 1; notes <= 10; notes++) {
      e.asks(notes - 1, "count", 10).does(notes, "note", notes, 0, 1);
    }
    e.asks(-2, "note", 1, 0, 1).asks(-2, "note", 61, 0, 1).asks(10, "count", 10).asks(1, "ruled", 0);
    // The first of ten counts, and the last of ten.
    e.on("street 1 0").does(1, "note", 0, 0, 0);
    for (int notes = 2; notes <= 10; notes++) {
      e.does(notes, "note", notes, 0, 1);
    }
    e.asks(0, "ruled", 0).on("street 1 0");
    for (int notes = 1; notes <= 9; notes++) {
      e.does(notes, "note", notes, 0, 1);
    }
    e.asks(1, "ruled", 0).does(10, "note", 60, 1, 0).asks(0, "ruled", 0);

    e = d.at(31, "n NONE: there are none then, 0").asks(0, "note", -1, 0, 0).on("street 1 0").asks(0, "note", -1, 0, 0);
    for (int notes = 1; notes <= 10; notes++) {
      e.does(notes, "note", 0, 0, 0);
    }
    e.asks(0, "ruled", 0).does(0, "note", -1, LAST, -7).asks(0, "count", 10).asks(1, "ruled", 0);
    e.does(1, "note", 0, 0, 1);
    e.asks(1, "ruled", 0);
  }

  private static void ruled(Edges d) {
    Edge e = d.at(32, "which of the RULES, and of none").on(BY_LINE).asks(1, "ruled", 0).asks(-1, "ruled", 1);
    for (int rule = 0; rule < 6; rule++) {
      e.rule(rule, rule == 5 ? "keep 0" : "keep 1").asks(rule + 2, "ruled", 0);
    }
    e.asks(7, "ruled", 0).asks(-1, "ruled", 1).does(1, "note", 0, 0, 0).asks(1, "ruled", 0).asks(5, "ruled", 1);
    e.does(2, "note", 0, 0, 1).asks(0, "ruled", 0).asks(-2, "ruled", 1).does(0, "note", -1, 0, 0);
    e.does(1, "note", 0, 0, 1).asks(6, "ruled", 0).asks(-1, "ruled", 1).does(2, "note", 60, 1, 1).asks(6, "ruled", 0);

    e = d.at(32, "how many; the first (none ahead of 0, told as NONE)").on(BY_LINE).rule(0, "keep 0");
    e.asks(2, "ruled", 0);
    e.asks(-1, "ruled", 1).does(1, "note", 0, 0, 0).asks(1, "ruled", 0).asks(0, "ruled", 1).does(-1, "force", 0);
    e.asks(0, "ruled", 1).does(0, "note", -1, 0, 0).does(1, "note", 0, 0, 1).asks(1, "ruled", 0).asks(-1, "ruled", 1);

    e = d.at(32, "so that from the begin on, all as the text told it, all NOTES are so: how many; the first");
    e.on(BY_LINE);
    e.does(9, "prop", 0, 9).does(0, "cut", 0).does(0, "year").rule(0, "keep 0").does(1, "note", 0, 0, 0);
    e.asks(0, "ruled", 1);

    e = d.at(32, "(NONE: none; -2: there is none such). -3 for others, or without a STREET.").rich();
    e.beyond(-3, 0, 1, "ruled", 0, 0).anew().asks(-3, "ruled", 0).asks(-3, "ruled", 1).asks(-3, "ruled", 2);
    e.on("street 1 0").does(1, "note", 0, 0, 0).asks(0, "ruled", 0).asks(-2, "ruled", 1).asks(-3, "ruled", 2);
  }

  private static void look(Edges d) {
    Edge e = d.at(33, "LOOK (n 0 to 60)").rich().beyond(-1, 0, 60, "look", 0, 0, 0).beyond(-1, 0, 60, "look", 0, 0, 1);
    threeRules(e, 60).asks(0, "look", 60, 0).asks(2, "look", 60, 1).asks(3, "look", 59, 1).asks(4, "look", 58, 1);
    // Behind year 0 house 0 fell by rule 0 alone.
    threeRules(e, 1).asks(0, "look", 0, 0).asks(3, "look", 0, 1).asks(2, "look", 1, 1);

    // From the begin on, whatever was told of years behind it, or is now.
    threeRules(e, 60).does(0, "year").does(1, "note", 60, 1, 1).asks(4, "look", 58, 1).asks(3, "look", 59, 1);

    e = d.at(33, "what 0: the HOUSE, 1: how many; -2: no RULE is so. NONE without these, or a STREET.").rich();
    e.beyond(-1, 0, 1, "look", 1, 0, 0).anew().asks(-1, "look", 0, 0).asks(-1, "look", 60, 1);
    e.on("street 1 0").asks(0, "look", 0, 0).asks(1, "look", 0, 1).does(1, "note", 0, 0, 0).asks(-2, "look", 0, 0);
    e.asks(-2, "look", 60, 1).asks(-1, "look", 61, 0).asks(-1, "look", 0, 2);
  }

  private static void lookParting(Edges d) {
    Edge e = d.at(33, "the most alike are fewest, of several the least; how many");
    e.on("street 5 0;house 9 5 0;line 0 9 5");
    e.asks(0, "look", 0, 0).asks(1, "look", 0, 1).rule(0, "keep 0").asks(9, "look", 0, 0).asks(1, "look", 0, 1);
    e.rule(1, "keep 0").asks(9, "look", 0, 0).asks(2, "look", 0, 1).rule(2, "keep 1").asks(2, "look", 0, 1);
    e.on("street 1 0;house 1 5 0;line 0 1 5").rule(0, "keep 0").asks(1, "look", 0, 0).asks(1, "look", 0, 1);
    // Houses 0 and 2 part alike; then house 2 parts better.
    e.on("street 2 0;house 0 5 0;house 2 5 0;line 0 2 5").rule(0, "keep 0").asks(0, "look", 0, 0).asks(1, "look", 0, 1);
    e.on("street 2 0;house 0 1 0;house 2 2 0;line 0 2 1;line 0 2 1;line 0 3 1").asks(0, "look", 0, 0);
    e.rule(0, "keep 0").rule(1, "keep 1").rule(2, "keep line-1").asks(2, "look", 0, 0).asks(2, "look", 0, 1);
    // Of those alone by which the notes are so.
    e.does(1, "note", 0, 0, 1).asks(3, "ruled", 0).asks(2, "look", 0, 0).asks(2, "look", 0, 1);
  }

  private static void seed(Edges d) {
    Edge e = d.at(34, "x becomes a number: what it was; NONE, and nothing happens, below 0.").asks(0, "seed", 0);
    e.does(0, "seed", LAST).asks(LAST, "count", 12).asks(-1, "seed", -1).asks(-1, "seed", Integer.MIN_VALUE);
    e.asks(-1, "seed", -65536).does(LAST, "seed", 0).asks(0, "count", 12).does(0, "seed", 1).does(1, "seed", 1 << 30);
    e.asks(1 << 30, "count", 12).rich().asks(-1, "seed", -1).does(77, "seed", LAST - 1);
    e.asks(LAST - 1, "seed", LAST - 1);

    e = d.at(34, "x (0 to 2147483647; 0 at first)").asks(0, "count", 12).on("street 1 0").asks(0, "count", 12);
    // From 2147483647 on the draws are 15929 and 4409, from 0 on 0 and 21468.
    e.asks(2, "winters", 1, 1, 0, 0).asks(1, "winters", 1, 1, 1, 0).does(0, "seed", LAST);
    e.asks(2, "winters", 1, 1, 29, 0);
    e.asks(1, "winters", 1, 1, 30, 0);
  }

  /** Draws from 0 on: 0, 21468, 9988, 22117, 3498, 16927, 16045, 19741; from 2147483647 on: 15929, 4409. */
  private static void draws(Edges d) {
    Edge e = d.at(35, "becomes x * 1103515245 + 12345, of 2147483648 the rest; a DRAW is x / 65536");
    // House 1 by the first, house 0 by the second: it has a foot for it, or not.
    e.on("street 1 0;house 1 0 1").does(0, "seed", LAST).asks(2, "winters", 1, 1, 30, 0);
    e.asks(2, "winters", 1, 1, 29, 0);
    e.does(LAST, "seed", 0).asks(1, "winters", 1, 1, 1, 0).on("street 1 0;house 0 0 1").asks(2, "winters", 1, 1, 1, 0);
    e.does(0, "seed", LAST).asks(1, "winters", 1, 1, 30, 0).on("street 5 0;house 9 0 1");
    e.asks(9, "winters", 1, 1, 100, 0);
    e.does(0, "seed", LAST).asks(10, "winters", 1, 1, 100, 0).does(LAST, "seed", 1).asks(9, "winters", 1, 1, 100, 0);
    // From 1073741824 on: 16384 and 5084, from 1 on: 16838 and 5758.
    e.on("street 5 0;house 4 0 1").does(0, "seed", 1 << 30).asks(10, "winters", 1, 1, 85, 0).does(1 << 30, "seed", 1);
    e.asks(9, "winters", 1, 1, 39, 0).asks(10, "winters", 1, 1, 38, 0).on("street 5 0;house 8 0 1").does(0, "seed", 1);
    e.asks(10, "winters", 1, 1, 39, 0);

    // House 0, house 1 twice, then house 1 again: house 0, on a foot of 1, is not snowed on in its place.
    e = d.at(35, "that one has 1 more LEAN from then on, STANDS it or not").on("street 1 0;house 0 0 1");
    e.asks(2, "winters", 1, 1, 100, 0).asks(1, "winters", 1, 2, 100, 0).asks(1, "winters", 1, 3, 100, 0);
    e.asks(1, "winters", 1, 4, 100, 0).on("street 1 0;house 1 0 2").asks(1, "winters", 1, 3, 100, 0);
    e.asks(0, "winters", 1, 4, 100, 0);
    // Beyond 60, too.
    e.on("street 1 0;house 0 60 30;house 1 60 30;line 0 1 31").asks(2, "winters", 1, 1, 100, 0);
    e.asks(0, "winters", 1, 60, 100, 0).asks(0, "winters", 1, 60, 100, 1).asks(2, "winters", 1, 60, 0, 0);
  }

  private static void winters(Edges d) {
    Edge e = d.at(35, "WINTERS m times (1 to 10) n YEARS (1 to 60) from now on").rich();
    e.beyond(-1, 1, 10, "winters", 0, 1, 1, 0, 0).beyond(-1, 1, 60, "winters", 1, 1, 1, 0, 0);
    e.on("street 5 0;line 0 5 1;line 1 6 1").asks(10, "winters", 1, 1, 0, 0).asks(100, "winters", 10, 60, 0, 0);
    e.asks(2, "winters", 1, 1, 0, 1).asks(20, "winters", 10, 60, 0, 1);
    e.on(BY_LINE).rule(0, "keep 60-year").rule(1, "keep 59-year").rule(2, "keep 1-year").does(-1, "force", 0);
    e.asks(1, "winters", 1, 60, 0, 1).asks(2, "winters", 1, 60, 0, 0).does(0, "force", 1);
    e.asks(0, "winters", 1, 60, 0, 1);
    e.asks(1, "winters", 1, 60, 0, 0).asks(1, "winters", 1, 59, 0, 1).does(1, "force", 2);
    e.asks(1, "winters", 1, 1, 0, 1);
    e.asks(0, "winters", 1, 2, 0, 1).asks(10, "winters", 10, 1, 0, 1);
    e.does(2, "force", 0).does(0, "year").asks(1, "winters", 1, 59, 0, 1).asks(0, "winters", 1, 60, 0, 1);
    // Each time from now on, but by draws that go on: houses 0, 1, 1 and 1, all on a foot of 1.
    e.on("street 1 0;house 0 0 1;house 1 0 1").does(0, "seed", 1).asks(8, "winters", 4, 1, 100, 0);
    e.on("street 1 0;house 0 0 1").does(0, "seed", 1).asks(5, "winters", 4, 1, 100, 0).asks(2, "winters", 1, 1, 100, 0);

    e = d.at(35, "how many LINES are UP then, all together (nothing stays; x as it was)").rich();
    e.asks(6, "winters", 2, 1, 0, 0);
    e.asks(4, "winters", 2, 1, 0, 1).asks(77, "count", 12).on("street 1 0;line 0 1 1");
    e.asks(10, "winters", 10, 1, 100, 1);
    e.asks(0, "house", 0, 0).asks(0, "count", 5).asks(0, "count", 12);
  }

  /** The first draw from 194 on is 22599, the second 21269; from 0 on the first is 0. */
  private static void wintersBounds(Edges d) {
    Edge e = d.at(35, "a DRAW mod 100: is it below p (0 to 100)").rich().beyond(-1, 0, 100, "winters", 2, 1, 1, 0, 0);
    e.on("street 1 0").asks(2, "winters", 1, 1, 0, 0).asks(1, "winters", 1, 1, 1, 0).does(0, "seed", 194);
    e.asks(2, "winters", 1, 1, 99, 0).asks(1, "winters", 1, 1, 100, 0).asks(2, "winters", 1, 1, 0, 0);
    // If it is not, there is no second draw: from 0 on 0, 21468, 9988, 22117 then.
    e.does(194, "seed", 0).asks(20, "winters", 10, 60, 0, 0).asks(3, "winters", 2, 1, 88, 0);
    e.asks(2, "winters", 2, 1, 89, 0);

    e = d.at(35, "a DRAW mod how many HOUSES there are (2 * LONG)").on("street 5 0;house 8 0 1");
    e.asks(10, "winters", 1, 1, 1, 0);
    e.on("street 2 0;house 0 0 1").asks(4, "winters", 1, 1, 1, 0).on("street 4 0;house 4 0 1");
    e.asks(8, "winters", 1, 1, 1, 0);
    e.on("street 5 0;house 3 0 1").asks(9, "winters", 1, 1, 1, 0).on("street 3 0;house 0 0 1");
    e.asks(6, "winters", 1, 1, 1, 0);

    e = d.at(35, "WINTERS what 0: HOUSES, 1: LINES. NONE without these, or a STREET.").rich();
    e.beyond(-1, 0, 1, "winters", 3, 1, 1, 0, 0).asks(-1, "winters", 0, 0, -1, -1).asks(-1, "winters", 11, 61, 101, 2);
    e.anew().asks(-1, "winters", 1, 1, 0, 0).asks(-1, "winters", 10, 60, 100, 1);
  }

  private static void count(Edges d) {
    Edge e = d.at(36, "13: bytes of the TAPE. NONE for others.").asks(0, "count", 13).beyond(-1, 0, 13, "count", 0, 0);
    e.rich().beyond(-1, 0, 13, "count", 0, 0).asks(10, "count", 13).tape(" ".repeat(400)).asks(400, "count", 13);

    e = d.at(36, "What 0: LONG, 1: FADES, 2: LINES that there are, or were").rich();
    int[] want = {2, 2, 3, 2, 1, 1, 7, 3, 20, 20, 2, 4, 77, 10};
    for (int what = 0; what < want.length; what++) {
      e.asks(want[what], "count", what);
    }
    e.on("street 5 9" + ";line 0 5 1".repeat(8)).asks(5, "count", 0).asks(9, "count", 1).asks(8, "count", 2);
    e.does(0, "year");
    e.asks(8, "count", 2).asks(0, "count", 7).asks(0, "count", 8);

    e = d.at(36, "6: HOUSES that STAND, as bits, 7: LINES that are UP, as bits, 8: PULL of all");
    e.on("street 1 0" + ";line 0 1 40".repeat(8));
    for (int line = 0; line < 8; line++) {
      e.does(49, "tighten", line, 9).does(58, "tighten", line, 9).does(60, "tighten", line, 9);
    }
    e.asks(3, "count", 6).asks(255, "count", 7).asks(480, "count", 8).on("street 1 0").asks(0, "count", 7);
    e.asks(0, "count", 8);

    StringBuilder all = new StringBuilder("street 5 0");
    for (int house = 0; house < 10; house++) {
      all.append(";house " + house + " 60 30");
    }
    e = d.at(36, "9: LEAN of all HOUSES that STAND").on(all.toString()).asks(600, "count", 9).asks(1023, "count", 6);
    e.does(1023, "year").asks(0, "count", 9).asks(0, "count", 6);
  }

  private static void image(Edges d) {
    Edge e = d.at(37, "An IMAGE is made: YEAR; NONE without it.").beyond(-1, 0, 3, "image", 0, 0).does(0, "image", 0);
    e.rich().beyond(-1, 0, 3, "image", 0, 0).does(1, "image", 0).does(1, "image", 3).does(0, "year");
    e.does(2, "image", 2);

    // In place of the one that was; the others stay.
    e = d.at(37, "IMAGES 0 to 3").on("street 1 0");
    for (int k = 0; k < 4; k++) {
      e.does(k, "image", k).does(0, "year");
    }
    e.does(4, "image", 0);
    for (int k = 3; k >= 0; k--) {
      e.does(k == 0 ? 4 : k, "back", k).asks(k == 0 ? 4 : k, "count", 5);
    }
    e.does(1, "back", 1).does(1, "image", 3).does(4, "back", 0).does(1, "back", 3).does(2, "back", 2);

    // By making one nothing can be undone less.
    e = d.at(37, "all but the TAPE and the RULES, as it is (the RULE IN FORCE, too)").rich().does(1, "image", 0);
    e.asks(4, "count", 11).does(3, "undo").does(2, "undo").asks(0, "count", 5).rule(2, "keep 1").does(1, "force", 2);
    e.does(77, "seed", 5).does(0, "note", -1, 0, 0).tape("abc").does(1, "back", 0).asks(3, "count", 3);
    e.asks(3, "count", 13);
    int[] want = {2, 2, 3, 3, 1, 1, 7, 3, 20, 20, 2, 0, 77, 3};
    for (int what = 0; what < want.length; what++) {
      e.asks(want[what], "count", what);
    }
    e.asks(13, "line", 0, 2).asks(7, "line", 1, 2).asks(7, "house", 0, 1).asks(0, "house", 3, 2);
  }

  private static void back(Edges d) {
    Edge e = d.at(38, "NONE, and nothing happens, if it was never made, or without it.");
    e.beyond(-1, 0, -1, "back", 0, 0);
    // Images 1 and 3 were made.
    e.asks(-1, "back", 3).rich().asks(-1, "back", 0).asks(-1, "back", 2).beyond(-1, 0, 3, "back", 0, 0);

    e = d.at(38, "gone back to, it is as it was (these stay; nothing can be UNDONE then)").rich().does(0, "back", 1);
    e.asks(-1, "undo").asks(0, "count", 11).asks(0, "count", 5).asks(7, "house", 0, 1).asks(6, "line", 0, 2);
    e.asks(15, "count", 6).asks(10, "count", 13).asks(2, "count", 3).does(15, "tighten", 0, 9).asks(1, "count", 11);
    // The image is not touched by what is done then, nor by another street.
    e.does(0, "back", 1).asks(6, "line", 0, 2).asks(0, "count", 11).street(0, "street 1 0").asks(1, "count", 0);
    e.does(1, "back", 3).asks(2, "count", 0).asks(2, "count", 10).asks(1, "count", 4).asks(3, "count", 7);
    // By line 0 house 0 is held behind year 2, if it pulls 13 or more.
    e.asks(28, "pulled", 0, 0).asks(13, "pulled", 0, 1);

    // Notes are as they were: which year, which house, and whether it stood.
    e.on(BY_LINE).rule(0, "keep 0").rule(1, "keep 1-year").does(1, "note", 0, 0, 0).does(0, "image", 2);
    e.does(0, "note", -1, 0, 0).does(1, "note", 3, 1, 1).asks(3, "ruled", 0);
    e.does(0, "back", 2).asks(1, "ruled", 0).asks(0, "ruled", 1);
    e.does(0, "note", -1, 0, 0).does(1, "note", 1, 0, 1).asks(-1, "ruled", 1).does(0, "back", 2).asks(0, "ruled", 1);
    e.does(0, "note", -1, 0, 0).does(1, "note", 0, 1, 1).asks(3, "ruled", 0).does(0, "back", 2).asks(1, "ruled", 0);

    e = d.at(38, "All is as in an IMAGE: YEAR").does(0, "image", 3).street(1, BY_LINE).does(0, "year");
    e.does(1, "image", 0);
    e.does(0, "back", 3).asks(0, "count", 0).asks(-1, "year").asks(-1, "house", 0, 0).asks(-1, "line", 0, 0);
    e.asks(-1, "pulled", 0, 0).asks(-3, "ruled", 0).asks(-2, "note", 0, 0, 0).does(1, "back", 0).asks(1, "count", 0);
    e.asks(1, "count", 5).asks(40, "pulled", 0, 0);
  }
}

/** Boundaries of promises 7 to 14: house, line, year, tighten, cut, hang, prop, undo; with how it gives way. */
final class EdgesOfActs {
  private static final String EIGHT = "street 1 0" + ";line 0 1 1".repeat(8);
  private static final String SEVEN = "street 1 0" + ";line 0 1 1".repeat(7);
  /** Nine houses in a row of eight lines: the first is weak, and each needs all its lines. */
  private static final String ROW = "street 5 0;house 0 2 0;house 1 2 0;house 2 2 0;house 3 2 0;house 4 1 0;house 5 2 0"
      + ";house 6 2 0;house 7 2 0;house 8 2 0;line 0 5 1;line 1 5 1;line 1 6 1;line 2 6 1;line 2 7 1;line 3 7 1"
      + ";line 3 8 1;line 4 8 1";

  private EdgesOfActs() {
  }

  static void run(Edges d) {
    house(d);
    line(d);
    held(d);
    letGo(d);
    fade(d);
    year(d);
    lastYear(d);
    tighten(d);
    cut(d);
    hang(d);
    hangBetween(d);
    prop(d);
    undo(d);
    undoTwenty(d);
  }

  private static void house(Edges d) {
    Edge e = d.at(7, "NONE without these.").rich().beyond(-1, 0, 3, "house", 0, 0, 0);
    e.beyond(-1, 0, 3, "house", 1, 0, 0);
    e.beyond(-1, 0, 3, "house", 1, 3, 0).asks(-1, "house", 4, 4).asks(-1, "house", -1, -1);
    e.on("street 1 0").beyond(-1, 0, 1, "house", 0, 0, 2).asks(1, "house", 0, 2).asks(1, "house", 1, 2);
    e.on("street 5 0").beyond(-1, 0, 9, "house", 0, 0, 2).asks(1, "house", 0, 2).asks(1, "house", 9, 2);

    e = d.at(7, "1 if it STANDS, else 0").rich().asks(1, "house", 0, 2).asks(1, "house", 2, 2).asks(0, "house", 3, 2);
    e.asks(9, "house", 3, 0).asks(1, "house", 3, 1).asks(0, "house", 3, 3);

    e = d.at(7, "LINES that are UP at it, as bits").rich().asks(1, "house", 0, 3).asks(2, "house", 1, 3);
    e.asks(3, "house", 2, 3).on("street 1 0").asks(0, "house", 0, 3).on(EIGHT).asks(255, "house", 0, 3);
    e.asks(255, "house", 1, 3).does(0, "cut", 7).asks(127, "house", 1, 3).does(0, "cut", 0).asks(126, "house", 0, 3);
    e.on("street 5 0;line 4 9 1").asks(1, "house", 9, 3).asks(1, "house", 4, 3).asks(0, "house", 5, 3);
  }

  private static void line(Edges d) {
    Edge e = d.at(8, "Of a LINE that there is, or was").rich().asks(1, "line", 2, 0).asks(3, "line", 2, 1);
    e.on("street 1 0").asks(-1, "line", 0, 0).asks(-1, "line", 0, 3).does(0, "hang", 0, 1, 5).asks(0, "line", 0, 0);
    e.asks(1, "line", 0, 1).asks(5, "line", 0, 2).asks(-1, "line", 1, 0).does(0, "undo").asks(-1, "line", 0, 0);
    e.on(EIGHT).does(0, "cut", 7).asks(0, "line", 7, 0).asks(1, "line", 7, 1);

    e = d.at(8, "NONE without these.").rich().beyond(-1, 0, 2, "line", 0, 0, 0).beyond(-1, 0, 3, "line", 1, 0, 0);
    e.beyond(-1, 0, 3, "line", 1, 2, 0).asks(-1, "line", 3, 4).on(EIGHT).beyond(-1, 0, 7, "line", 0, 0, 2);
    e.asks(1, "line", 7, 2).asks(1, "line", 0, 2).on(SEVEN).beyond(-1, 0, 6, "line", 0, 0, 3);

    e = d.at(8, "PULL (0, if it is not UP), 3: 1 if it is UP, else 0").rich();
    e.asks(13, "line", 0, 2).asks(1, "line", 0, 3).asks(0, "line", 2, 2).asks(0, "line", 2, 3);
    e.on("street 1 0;line 0 1 40").asks(40, "line", 0, 2).does(0, "cut", 0).asks(0, "line", 0, 2).asks(0, "line", 0, 3);
  }

  private static void held(Edges d) {
    Edge e = d.at(9, "if its LEAN is not more than its FOOT and the PULL of all LINES that are UP at it, together");
    e.on("street 1 0;house 0 12 3;line 0 1 4;line 0 1 5").asks(3, "ahead", 1, 0).does(0, "year");
    e.on("street 1 0;house 0 13 3;line 0 1 4;line 0 1 5").asks(2, "ahead", 1, 0).does(1, "year");
    e.on("street 1 0;house 1 12 3;line 0 1 4;line 0 1 5").does(0, "year");
    e.on("street 1 0;house 1 13 3;line 0 1 4;line 0 1 5").does(2, "year");
    e.on("street 1 0;house 0 30 30;house 1 31 30").does(2, "year").on("street 1 0;house 0 0 0;house 1 1 0");
    e.does(2, "year");
    e.on("street 1 0;house 0 12 3;line 0 1 4;line 0 1 5;line 0 1 1").does(0, "cut", 2);
    e.on("street 1 0;house 0 13 3;line 0 1 4;line 0 1 5;line 0 1 1").does(1, "cut", 2);
    // One line of another house holds nobody here.
    e.on("street 2 0;house 0 5 0;line 1 3 9").does(1, "year").asks(1, "count", 7);

    e = d.at(9, "It GIVES WAY: as long as any HOUSE that STANDS is not HELD");
    e.on(ROW).asks(1023, "count", 6).does(511, "year").asks(512, "count", 6).asks(0, "count", 7);
    e.on(ROW.replace("house 0 2 0", "house 0 1 0")).does(0, "year").asks(1023, "count", 6).asks(255, "count", 7);
    e.does(511, "cut", 7).asks(512, "count", 6).on(ROW.replace("house 8 2 0", "house 8 1 0")).does(239, "year");

    e = d.at(9, "LINES at these are UP no more").on("street 2 0;house 0 9 0;line 0 2 1;line 0 3 1;line 1 3 1");
    e.does(1, "year").asks(4, "count", 7).asks(0, "line", 0, 2).asks(0, "line", 1, 3).asks(1, "line", 2, 2);

    e = d.at(9, "HOUSES that fall in it, as bits").on("street 1 0").does(0, "year").does(0, "year");
    StringBuilder all = new StringBuilder("street 5 0");
    for (int house = 0; house < 10; house++) {
      all.append(";house " + house + " 1 0");
    }
    e.on(all.toString()).does(1023, "year").does(0, "year").asks(0, "count", 6).asks(2, "count", 5);
  }

  private static void letGo(Edges d) {
    Edge e = d.at(9, "is not above 0, are UP no more");
    e.keeps(0, "keep 0").keeps(1, "keep 1").keeps(0, "keep 0-1").keeps(0, "keep 9-pull").keeps(1, "keep pull-8");
    e.keeps(0, "keep pull-9").keeps(0, "keep pull-10").keeps(1, "keep 99999*99999").keeps(0, "keep 0-99999*99999");
    e.keeps(1, "keep 65536*65536").keeps(0, "keep 0-65536*65536");

    e = d.at(9, "first CLAUSE without a TEST, or whose TEST holds");
    e.keeps(1, "keep 1;keep 0").keeps(0, "keep 0;keep 1").keeps(1, "keep 0 if pull=8;keep 1;keep 0");
    e.keeps(0, "keep 0 if pull=9;keep 1").keeps(1, "keep 1 if pull=9;keep 0");
    e.keeps(0, "keep 1 if pull=8;keep 0 if pull=9;keep 1");

    e = d.at(9, "(0 without)").keeps(0, "keep 1 if pull=8").keeps(0, "keep 1 if pull=8;keep 1 if pull=10");
    e.keeps(1, "keep 1 if pull=8;keep 1 if pull=9");

    e = d.at(9, "without a RULE none is let go so").on("street 1 0;line 0 1 1").asks(1, "ahead", 100, 1);
    e.does(0, "year");
    e.asks(1, "count", 7).rule(0, "keep 0").asks(1, "ahead", 1, 1).does(-1, "force", 0).asks(0, "ahead", 1, 1);
    e.does(0, "force", -1).asks(1, "ahead", 1, 1);

    e = d.at(9, "each by how all is as the YEAR begins").on("street 1 1;house 0 1 9;line 0 1 5;line 0 1 5");
    e.rule(0, "keep up-1").rule(1, "keep up-2").rule(2, "keep pull-4").rule(3, "keep 1-year").does(-1, "force", 0);
    e.asks(3, "ahead", 1, 1).does(0, "force", 1).asks(0, "ahead", 1, 1).does(1, "force", 2).asks(3, "ahead", 1, 1);
    e.asks(0, "ahead", 2, 1).does(2, "force", 3).asks(3, "ahead", 1, 1).asks(0, "ahead", 2, 1);
  }

  private static void fade(Edges d) {
    Edge e = d.at(9, "one that would PULL 0 or less is UP no more");
    e.on("street 1 3;line 0 1 2;line 0 1 3;line 0 1 4").does(0, "year").asks(4, "count", 7).asks(1, "line", 2, 2);
    e.asks(0, "line", 1, 2).asks(0, "line", 0, 2).does(0, "year").asks(0, "count", 7).asks(3, "count", 2);
    e.on("street 1 9;line 0 1 9;line 0 1 10;line 0 1 40").does(0, "year").asks(6, "count", 7).asks(1, "line", 1, 2);
    e.asks(31, "line", 2, 2).does(0, "year").does(0, "year").does(0, "year").asks(4, "line", 2, 2).asks(4, "count", 7);
    e.does(0, "year").asks(0, "count", 7);

    // Ahead of giving way: house 0 is held as the year begins, and falls in it.
    e.on("street 1 1;house 0 5 0;line 0 1 5").does(1, "year").on("street 1 1;house 0 5 0;line 0 1 6").does(0, "year");
    e.does(1, "year");

    e = d.at(9, "Each LINE that is UP PULLS as much less as it FADES");
    e.on("street 1 0;line 0 1 1;line 0 1 40").does(0, "year").asks(1, "line", 0, 2).asks(40, "line", 1, 2);
    e.asks(3, "ahead", 100, 1).asks(41, "ahead", 100, 2).on("street 1 9;line 0 1 40").does(0, "year");
    e.asks(31, "line", 0, 2);
  }

  private static void year(Edges d) {
    d.at(9, "NONE, and nothing happens, without a STREET").asks(-1, "year").asks(0, "count", 5).asks(0, "count", 11);
    Edge e = d.at(9, "YEAR is 1 more").on("street 1 0").asks(0, "count", 5).does(0, "year").asks(1, "count", 5);
    e.does(0, "year").asks(2, "count", 5).does(1, "undo").asks(1, "count", 5);
  }

  /** Year 999 is more than 512 calls away, where answers are free: that they are these is of our class alone. */
  private static void lastYear(Edges d) {
    String sentence = "999 at most by hand; YEARS that are asked go on beyond";
    d.at(9, sentence);
    TannerBunting x = Checks.on("street 1 0;house 1 9 0;line 0 1 9");
    for (int n = 0; n < 998; n++) {
      x.year();
    }
    Checks.rule(x, "keep 1000-year");
    x.force(0);
    d.due(sentence, "count(5)", x.count(5), 998);
    d.due(sentence, "year() in 998", x.year(), 0);
    d.due(sentence, "count(5)", x.count(5), 999);
    d.due(sentence, "year() in 999", x.year(), -1);
    d.due(sentence, "count(5)", x.count(5), 999);
    d.due(sentence, "ahead(1, 1), by year 999", x.ahead(1, 1), 1);
    d.due(sentence, "ahead(2, 1), by year 1000", x.ahead(2, 1), 0);
    d.due(sentence, "falls(0)", x.falls(0), 1000);
    d.due(sentence, "lasts(1)", x.lasts(1), 1000);
    d.due(sentence, "undo()", x.undo(), 19);
    d.due(sentence, "count(5) then", x.count(5), 998);
  }

  private static void tighten(Edges d) {
    Edge e = d.at(10, "TIGHTEN (a LINE that is UP PULLS 1 to 9 more, 60 at most)");
    e.on("street 1 0;line 0 1 40;line 0 1 1").does(2, "tighten", 1, 1).does(11, "tighten", 1, 9);
    e.does(49, "tighten", 0, 9);
    e.does(58, "tighten", 0, 9).does(59, "tighten", 0, 1).does(60, "tighten", 0, 1).does(60, "tighten", 0, 1);
    e.does(60, "tighten", 0, 9).asks(60, "line", 0, 2).asks(11, "line", 1, 2).asks(71, "count", 8).asks(8, "count", 11);
    e.beyond(-1, 1, 9, "tighten", 1, 0, 1).does(7, "undo").asks(60, "line", 0, 2).does(6, "undo").does(5, "undo");
    e.asks(59, "line", 0, 2);
    e.on("street 1 0;line 0 1 40").does(49, "tighten", 0, 9).does(51, "tighten", 0, 2).does(60, "tighten", 0, 9);
    e.on("street 1 0;line 0 1 40").does(49, "tighten", 0, 9).does(52, "tighten", 0, 3).does(60, "tighten", 0, 9);
    e.asks(60, "count", 8).asks(60, "ahead", 1, 2);
    e.on(EIGHT).does(10, "tighten", 7, 9).does(2, "tighten", 0, 1);

    e = d.at(10, "NONE, and nothing happens, without these.").rich().beyond(-1, 1, 9, "tighten", 1, 0, 1);
    // Line 2 was, and is not up; there is no line 3.
    e.beyond(-1, 0, 1, "tighten", 0, 0, 1).asks(-1, "tighten", 2, 9).asks(-1, "tighten", 3, 1);
    e.asks(-1, "tighten", 2, 0);
    e.on(EIGHT).beyond(-1, 0, 7, "tighten", 0, 0, 1).on("street 1 0").asks(-1, "tighten", 0, 1);
  }

  private static void cut(Edges d) {
    Edge e = d.at(11, "CUT (a LINE that is UP is no more; it GIVES WAY then)").on(EIGHT).does(0, "cut", 7);
    e.does(0, "cut", 0);
    e.asks(126, "count", 7).asks(8, "count", 2);
    // A house that was not held falls by any cut, if it is another's, too.
    e.on("street 2 0;house 1 5 0;line 0 2 1").asks(15, "count", 6).does(2, "cut", 0).asks(13, "count", 6);

    e = d.at(11, "HOUSES that fall by it, as bits").on("street 1 0;house 0 1 0;house 1 1 0;line 0 1 1");
    e.does(3, "cut", 0);
    e.on("street 1 0;house 0 1 0;house 1 1 0;line 0 1 1;line 0 1 1").does(0, "cut", 0).does(3, "cut", 1);
    e.asks(0, "count", 6);
    e.on("street 1 0;house 0 1 1;house 1 2 1;line 0 1 1").does(2, "cut", 0);

    e = d.at(11, "NONE, and nothing happens, without it UP.").rich().beyond(-1, 0, 1, "cut", 0, 0).does(0, "cut", 1);
    e.asks(-1, "cut", 1).asks(-1, "cut", 2).on(EIGHT).beyond(-1, 0, 7, "cut", 0, 0).on("street 1 0").asks(-1, "cut", 0);
    e.on("street 1 1;line 0 1 1").does(0, "year").asks(-1, "cut", 0);
  }

  private static void hang(Edges d) {
    Edge e = d.at(12, "HANG (a LINE that is not UP, or the next one, if there are fewer than 8").on("street 1 0");
    for (int line = 0; line < 8; line++) {
      e.asks(line, "count", 2).does(line, "hang", 0, 1, line + 1).asks(line + 1, "line", line, 2);
    }
    e.asks(-1, "hang", 0, 1, 1).asks(8, "count", 2).asks(255, "count", 7);
    e.on(SEVEN).does(7, "hang", 0, 1, 9).asks(-1, "hang", 0, 1, 9).asks(9, "line", 7, 2);

    e = d.at(12, "the LINE (the least that is not UP)").on("street 1 0;line 0 1 1;line 0 1 2").does(0, "cut", 0);
    e.does(0, "hang", 0, 1, 9).does(2, "hang", 0, 1, 8).asks(3, "count", 2).asks(9, "line", 0, 2).asks(2, "line", 1, 2);
    e.on(EIGHT).does(0, "cut", 7).does(0, "cut", 3).does(0, "cut", 5).does(3, "hang", 0, 1, 7).does(5, "hang", 0, 1, 7);
    e.does(7, "hang", 0, 1, 7).asks(-1, "hang", 0, 1, 7).asks(8, "count", 2).asks(26, "count", 8);
    e.rich().does(2, "hang", 1, 2, 3).asks(2, "line", 2, 1).does(3, "hang", 1, 2, 3).asks(4, "count", 2);

    e = d.at(12, "NONE, and nothing happens, without these, or if 8 are UP.").on(EIGHT).asks(-1, "hang", 0, 1, 1);
    e.asks(-1, "hang", 0, 1, 40).does(0, "cut", 4).does(4, "hang", 0, 1, 1).asks(-1, "hang", 0, 1, 1);
    e.anew().asks(-1, "hang", 0, 1, 1).asks(-1, "hang", 0, 0, 1);

    // A house that is not held does not fall by it.
    e = d.at(12, "HANG: the LINE").on("street 1 0;house 0 9 0;house 1 9 0").does(0, "hang", 0, 1, 1);
    e.asks(3, "count", 6);
    e.asks(1, "count", 11).asks(0, "count", 5);
  }

  private static void hangBetween(Edges d) {
    Edge e = d.at(12, "and PULLS 1 to 40)").on("street 2 0").does(0, "hang", 0, 2, 1).does(1, "hang", 1, 3, 40);
    e.asks(1, "line", 0, 2).asks(40, "line", 1, 2).beyond(-1, 1, 40, "hang", 2, 0, 2, 1);
    e.rich().beyond(-1, 1, 40, "hang", 2, 0, 2, 1);

    e = d.at(12, "between an ODD and an EVEN HOUSE that STAND").on("street 2 0").beyond(-1, 0, 1, "hang", 0, 0, 2, 1);
    e.beyond(-1, 2, 3, "hang", 1, 0, 2, 1).asks(-1, "hang", 2, 0, 1).asks(-1, "hang", 2, 3, 1);
    e.asks(-1, "hang", 0, 1, 1);
    e.does(0, "hang", 1, 2, 1).does(1, "hang", 0, 3, 1).asks(1, "line", 0, 0).asks(2, "line", 0, 1);
    e.asks(3, "line", 1, 1);
    e.on("street 5 0").beyond(-1, 0, 4, "hang", 0, 0, 9, 1).beyond(-1, 5, 9, "hang", 1, 0, 9, 1);
    e.does(0, "hang", 4, 9, 1);
    e.does(1, "hang", 4, 5, 1).rich().asks(-1, "hang", 0, 3, 1).on("street 2 0;house 0 1 0").does(1, "year");
    e.asks(-1, "hang", 0, 2, 1).asks(-1, "hang", 0, 3, 1).does(0, "hang", 1, 2, 1);
  }

  private static void prop(Edges d) {
    Edge e = d.at(13, "PROP (a HOUSE that STANDS has 1 to 9 more FOOT, 60 at most)").on("street 1 0;house 0 0 30");
    e.does(1, "prop", 1, 1).does(31, "prop", 0, 1).does(40, "prop", 0, 9).does(49, "prop", 0, 9).does(58, "prop", 0, 9);
    e.does(59, "prop", 0, 1).does(60, "prop", 0, 1).does(60, "prop", 0, 1).does(60, "prop", 0, 9);
    e.asks(60, "house", 0, 1);
    e.asks(9, "count", 11).asks(1, "house", 1, 1).beyond(-1, 1, 9, "prop", 1, 0, 1).does(8, "undo").does(7, "undo");
    e.does(6, "undo").asks(59, "house", 0, 1);
    e.on("street 1 0;house 0 0 30").does(39, "prop", 0, 9).does(48, "prop", 0, 9).does(51, "prop", 0, 3);
    e.does(60, "prop", 0, 9).on("street 1 0;house 0 0 30").does(39, "prop", 0, 9).does(48, "prop", 0, 9);
    e.does(57, "prop", 0, 9).does(60, "prop", 0, 9).on("street 5 0").does(9, "prop", 9, 9).does(1, "prop", 4, 1);

    e = d.at(13, "NONE, and nothing happens, without these.").rich().beyond(-1, 1, 9, "prop", 1, 0, 1);
    // House 3 fell; there is no house 4.
    e.beyond(-1, 0, 2, "prop", 0, 0, 1).asks(-1, "prop", 3, 9).asks(-1, "prop", 4, 1).asks(-1, "prop", 3, 0);
    e.on("street 5 0").beyond(-1, 0, 9, "prop", 0, 0, 1).anew().asks(-1, "prop", 0, 1);
  }

  private static void undo(Edges d) {
    Edge e = d.at(14, "how many more can be; NONE, and nothing happens: none can.").asks(-1, "undo").on("street 1 0");
    e.asks(-1, "undo").does(1, "prop", 0, 1).does(0, "undo").asks(-1, "undo").asks(0, "house", 0, 1);
    e.rich().does(3, "undo").does(2, "undo").does(1, "undo").does(0, "undo").asks(-1, "undo").asks(0, "count", 5);
    e.asks(3, "house", 0, 1).asks(6, "line", 0, 2).asks(7, "count", 7).asks(15, "count", 6);
    // Neither notes, nor rules, nor x are acts.
    e.asks(1, "count", 4).asks(77, "count", 12).asks(2, "count", 10);

    e = d.at(14, "The last ACT is UNDONE").on("street 2 1;house 0 5 0;line 0 2 5;line 0 3 1").does(1, "year");
    e.does(0, "undo");
    e.asks(15, "count", 6).asks(3, "count", 7).asks(6, "count", 8).asks(0, "count", 5).does(1, "cut", 0);
    e.does(0, "undo").asks(15, "count", 6).asks(3, "count", 7).does(14, "tighten", 0, 9).does(0, "undo");
    e.asks(5, "line", 0, 2);
    e.does(0, "cut", 1).does(1, "hang", 1, 2, 40).asks(1, "line", 1, 0).does(1, "undo").asks(0, "line", 1, 0);
    e.asks(3, "line", 1, 1).asks(0, "line", 1, 3).does(0, "undo").asks(1, "line", 1, 2).does(2, "hang", 1, 2, 40);
    e.does(0, "undo").asks(2, "count", 2).asks(-1, "line", 2, 0).asks(-1, "undo");
  }

  private static void undoTwenty(Edges d) {
    Edge e = d.at(14, "The last 20 can be UNDONE, the last first.").on("street 1 0");
    for (int acts = 1; acts <= 20; acts++) {
      e.does(acts, "prop", 0, 1);
    }
    e.asks(20, "count", 11);
    for (int more = 19; more >= 0; more--) {
      e.does(more, "undo").asks(more, "house", 0, 1);
    }
    e.asks(-1, "undo");
    for (int acts = 1; acts <= 21; acts++) {
      e.does(acts, "prop", 0, 1);
    }
    e.asks(20, "count", 11);
    for (int more = 19; more >= 0; more--) {
      e.does(more, "undo").asks(more + 1, "house", 0, 1);
    }
    e.asks(-1, "undo").asks(1, "house", 0, 1);
    // Twice round: what is undone makes room, and what is too old stays.
    e.on("street 1 0");
    for (int acts = 1; acts <= 45; acts++) {
      e.does(acts, "prop", 0, 1);
    }
    for (int more = 19; more >= 15; more--) {
      e.does(more, "undo");
    }
    e.does(41, "prop", 0, 1).asks(16, "count", 11).does(15, "undo").asks(40, "house", 0, 1);
    for (int more = 14; more >= 0; more--) {
      e.does(more, "undo");
    }
    e.asks(25, "house", 0, 1).asks(-1, "undo");
  }
}

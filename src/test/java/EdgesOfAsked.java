/** Boundaries of promises 15 to 30: what is asked of the street as it is, and of years to come. */
final class EdgesOfAsked {
  private static final String EIGHT = "street 1 0;house 0 1 0;house 1 1 0" + ";line 0 1 1".repeat(8);
  private static final String SEVEN = "street 1 0;house 0 9 0" + ";line 0 1 1".repeat(7);
  /** House 0 is held by its line alone, house 1 by nothing that it needs. */
  private static final String BY_LINE = "street 1 0;house 0 5 0;line 0 1 5";
  private static final String WEAK = "street 1 0;house 0 9 2;house 1 3 0;line 0 1 3";
  private static final String DOWN = "street 1 0;house 0 1 0;house 1 1 0";

  private EdgesOfAsked() {
  }

  static void run(Edges d) {
    asked(d);
    ahead(d);
    falls(d);
    lasts(d);
    spare(d);
    needed(d);
    fewest(d);
    down(d);
    byThese(d);
    way(d);
    blocks(d);
    propped(d);
    marry(d);
    newLine(d);
    newLineYears(d);
    pulled(d);
    rests(d);
    restsOfTwo(d);
    pence(d);
  }

  /** House 0 falls in the year of this number. */
  private static Edge fallsIn(Edge e, int year) {
    return e.on(BY_LINE).rule(0, "keep " + year + "-year").does(-1, "force", 0);
  }

  private static void asked(Edges d) {
    String[] questions = {"ahead 3 0", "ahead 3 1", "ahead 100 2", "falls 0", "falls 1", "lasts 0", "lasts 1",
        "spare 0", "spare 1", "needed", "fewest 0 0", "fewest 0 1", "fewest 1 0", "down 0", "down 1", "byThese 0",
        "byThese 1", "way 0 1", "way 1 2", "blocks -1", "blocks 0", "blocks 1", "propped 0 1", "propped 0 40",
        "propped 1 9", "marry -1", "marry 0", "marry 1", "newLine 9 5 0", "newLine 9 5 1", "newLine 9 5 2",
        "newLine 40 1 0", "pulled 0 0", "pulled 0 1", "pulled 1 0", "rests 0 1 5 0", "rests 0 1 5 1",
        "rests 1 0 20 2", "rests 0 2 1 0", "pence 100 0", "pence 100 1", "ruled 0", "ruled 1", "look 2 0", "look 2 1",
        "look 60 1", "winters 3 9 50 0", "winters 3 9 50 1", "house 0 0", "house 1 3", "line 0 2", "line 1 3",
        "count 5", "count 6", "count 12"};
    Edge e = d.at(15, "(By what is asked nothing changes; YEARS go on by the RULE IN FORCE.)").rich();
    e.inAnyOrder("street 1 0", questions).inAnyOrder("street 1 1;house 0 5 0;line 0 1 6", questions);
    e.on("street 5 1;line 0 9 9;line 1 8 8;line 2 7 7;line 3 6 6;line 4 5 5").inAnyOrder("street 1 0", questions);
    e.on("street 1 0;line 0 1 1").inAnyOrder(Checks.SAMPLE, questions).inAnyOrder(WEAK, questions);
  }

  private static void ahead(Edges d) {
    Edge e = d.at(15, "AHEAD n YEARS (0 to 100)");
    fallsIn(e, 100).asks(3, "ahead", 100, 0).asks(1, "ahead", 100, 1).asks(5, "ahead", 100, 2);
    fallsIn(e, 99).asks(2, "ahead", 100, 0).asks(0, "ahead", 100, 1).asks(0, "ahead", 100, 2);
    e.asks(3, "ahead", 99, 0).asks(1, "ahead", 99, 1).asks(5, "ahead", 99, 2);
    fallsIn(e, 0).asks(3, "ahead", 0, 0).asks(1, "ahead", 0, 1).asks(5, "ahead", 0, 2).asks(2, "ahead", 1, 0);
    // From the year on that it is.
    fallsIn(e, 100).does(0, "year").asks(1, "ahead", 99, 1).asks(0, "ahead", 100, 1);
    // In none of them a house falls, weak as it may be.
    e.on(WEAK).asks(3, "ahead", 0, 0).asks(1, "ahead", 0, 1).asks(0, "ahead", 1, 0);
    e.rich().beyond(-1, 0, 100, "ahead", 0, 0, 0).beyond(-1, 0, 100, "ahead", 0, 0, 2);

    e = d.at(15, "AHEAD what 0: HOUSES, 1: LINES, 2: PULL. NONE without these, or a STREET.").rich();
    e.asks(7, "ahead", 0, 0).asks(3, "ahead", 0, 1).asks(20, "ahead", 0, 2).beyond(-1, 0, 2, "ahead", 1, 0, 0);
    e.asks(-1, "ahead", 101, 3).anew().asks(-1, "ahead", 0, 0).asks(-1, "ahead", 0, 1).asks(-1, "ahead", 1, 2);
    e.on("street 1 0").asks(3, "ahead", 100, 0).asks(0, "ahead", 100, 1).asks(0, "ahead", 100, 2);
    e.on(DOWN).asks(0, "ahead", 100, 0);
  }

  private static void falls(Edges d) {
    Edge e = d.at(16, "FALLS: the first YEAR, this one the first, of 200, in which any HOUSE falls");
    fallsIn(e, 0).asks(0, "falls", 0).asks(0, "falls", 1);
    fallsIn(e, 199).asks(199, "falls", 0).asks(0, "falls", 1);
    fallsIn(e, 200).asks(-2, "falls", 0).asks(-2, "falls", 1).does(0, "year").asks(200, "falls", 0).asks(0, "falls", 1);
    fallsIn(e, 201).does(0, "year").asks(-2, "falls", 0).does(0, "year").asks(201, "falls", 0);
    fallsIn(e, 2).does(0, "year").does(0, "year").asks(2, "falls", 0).does(1, "year").asks(-2, "falls", 0);

    e = d.at(16, "which, the least of that YEAR").on("street 5 0;house 9 1 0").asks(0, "falls", 0).asks(9, "falls", 1);
    e.on("street 5 0;house 3 1 0;house 9 1 0;house 8 1 0").asks(3, "falls", 1).on(DOWN).asks(0, "falls", 1);
    // House 1 falls first, house 0 in the year behind it.
    e.on("street 2 1;house 0 2 0;house 1 3 0;line 0 2 3;line 1 3 3").asks(0, "falls", 0).asks(1, "falls", 1);

    e = d.at(16, "-2: in none of these. NONE for others, or without a STREET.").rich().beyond(-1, 0, 1, "falls", 0, 0);
    e.anew().asks(-1, "falls", 0).asks(-1, "falls", 1).asks(-1, "falls", 2).on("street 1 0").asks(-2, "falls", 0);
    e.asks(-2, "falls", 1).on(DOWN).does(3, "year").asks(-2, "falls", 0).asks(-2, "falls", 1);
  }

  private static void lasts(Edges d) {
    Edge e = d.at(17, "LASTS of a HOUSE that STANDS: the first YEAR, this one the first, of 200, in which it falls");
    fallsIn(e, 0).asks(0, "lasts", 0).asks(-2, "lasts", 1);
    fallsIn(e, 199).asks(199, "lasts", 0).asks(-2, "lasts", 1);
    fallsIn(e, 200).asks(-2, "lasts", 0).does(0, "year").asks(200, "lasts", 0);
    fallsIn(e, 201).does(0, "year").asks(-2, "lasts", 0).does(0, "year").asks(201, "lasts", 0);
    e.on("street 2 1;house 0 2 0;house 1 3 0;line 0 2 3;line 1 3 3").asks(1, "lasts", 0).asks(0, "lasts", 1);
    e.on("street 5 0;house 9 1 0").asks(0, "lasts", 9).asks(-2, "lasts", 0);

    e = d.at(17, "-2: in none of these; NONE without that HOUSE (that STANDS)").rich().beyond(-1, 0, 2, "lasts", 0, 0);
    e.asks(-1, "lasts", 3).asks(-1, "lasts", 4).on("street 5 0").beyond(-1, 0, 9, "lasts", 0, 0).asks(-2, "lasts", 9);
    e.on("street 1 0").beyond(-1, 0, 1, "lasts", 0, 0).asks(-2, "lasts", 0).anew().asks(-1, "lasts", 0);
    e.on(DOWN).does(3, "year").asks(-1, "lasts", 0).asks(-1, "lasts", 1);
  }

  private static void spare(Edges d) {
    Edge e = d.at(18, "SPARE (below 0, too)").on("street 1 0;house 0 12 3;house 1 60 0;line 0 1 9").asks(0, "spare", 0);
    e.asks(-51, "spare", 1).on("street 1 0;house 0 13 3;line 0 1 9").asks(-1, "spare", 0).asks(9, "spare", 1);
    e.on("street 1 0;house 0 11 3;line 0 1 9").asks(1, "spare", 0).on("street 1 0;house 0 60 0").asks(-60, "spare", 0);
    e.asks(0, "spare", 1).on("street 1 0;house 0 0 30" + ";line 0 1 40".repeat(8)).asks(350, "spare", 0);
    e.asks(320, "spare", 1).does(39, "prop", 0, 9).asks(359, "spare", 0).does(0, "cut", 7).asks(280, "spare", 1);

    e = d.at(18, "-1000 without that HOUSE (that STANDS)").rich().beyond(-1000, 0, 2, "spare", 0, 0);
    e.asks(-1000, "spare", 3);
    e.on("street 5 0").beyond(-1000, 0, 9, "spare", 0, 0).asks(0, "spare", 9).anew().asks(-1000, "spare", 0);
    e.asks(-1000, "spare", -1).on(DOWN).does(3, "year").asks(-1000, "spare", 0).asks(-1000, "spare", 1);
  }

  private static void needed(Edges d) {
    Edge e = d.at(19, "NEEDED: LINES that are UP, by which alone, if it were CUT, any HOUSE would fall, as bits.");
    e.on("street 1 0;house 0 5 2;line 0 1 3;line 0 1 2").asks(1, "needed");
    e.on("street 1 0;house 0 5 0;line 0 1 3;line 0 1 2");
    e.asks(3, "needed").on("street 1 0;house 1 5 2;line 0 1 3;line 0 1 2").asks(1, "needed").on(EIGHT);
    e.asks(0, "needed");
    e.on(EIGHT.replace("house 1 1 0", "house 1 8 0")).asks(255, "needed").does(3, "cut", 3).asks(0, "needed");
    e.on(EIGHT.replace("house 1 1 0", "house 1 7 0")).asks(0, "needed").does(0, "cut", 3).asks(247, "needed");
    e.on("street 1 0").asks(0, "needed").on("street 1 0;house 0 5 0").asks(0, "needed");

    e = d.at(19, "NONE without a STREET.").asks(-1, "needed").on("street 1 0").asks(0, "needed");
    e.on(DOWN).does(3, "year").asks(0, "needed");
  }

  private static void fewest(Edges d) {
    Edge e = d.at(20, "the fewest LINES that are UP, none too, to be CUT, all at once, so that it falls");
    // None, as it is not held, or as another that falls takes its lines with it.
    e.on(WEAK).asks(0, "fewest", 0, 0).asks(0, "fewest", 0, 1).asks(0, "fewest", 1, 0).asks(0, "fewest", 1, 1);
    e.on("street 1 0;house 0 1 0").asks(0, "fewest", 0, 0).asks(0, "fewest", 0, 1);
    e.on("street 1 0;house 0 1 0;line 0 1 5;line 0 1 1").asks(2, "fewest", 0, 0).asks(3, "fewest", 0, 1);
    e.on("street 1 0;house 0 2 0;line 0 1 5;line 0 1 1").asks(1, "fewest", 0, 0).asks(1, "fewest", 0, 1);
    e.on("street 1 0;house 0 5 0;line 0 1 1;line 0 1 5").asks(1, "fewest", 0, 0).asks(2, "fewest", 0, 1);
    e.on(EIGHT).asks(8, "fewest", 0, 0).asks(255, "fewest", 0, 1).asks(8, "fewest", 1, 0).asks(255, "fewest", 1, 1);
    e.does(0, "cut", 7).asks(7, "fewest", 0, 0).asks(127, "fewest", 0, 1);
    // By the fall of house 0, whose line it was.
    e.on("street 2 0;house 0 2 0;house 2 1 0;line 0 2 1;line 0 3 1").asks(1, "fewest", 2, 0).asks(1, "fewest", 2, 1);

    e = d.at(20, "of several sets the least as bits: how many; the set");
    e.on(EIGHT.replace("house 1 1 0", "house 1 7 0"));
    e.asks(2, "fewest", 1, 0).asks(3, "fewest", 1, 1).on("street 1 0;house 0 5 0;line 0 1 1;line 0 1 1;line 0 1 4");
    e.asks(1, "fewest", 0, 0).asks(4, "fewest", 0, 1);
    e.on("street 1 0;house 0 5 0;line 0 1 1;line 0 1 3;line 0 1 3").asks(1, "fewest", 0, 0).asks(2, "fewest", 0, 1);

    e = d.at(20, "-2: by none. NONE without these (that STANDS).").on("street 1 0;house 0 5 5;line 0 1 9");
    e.asks(-2, "fewest", 0, 0).asks(-2, "fewest", 0, 1).asks(-2, "fewest", 1, 1);
    e.on("street 1 0;house 0 6 5;line 0 1 9");
    e.asks(1, "fewest", 0, 0).rich().beyond(-1, 0, 2, "fewest", 0, 0, 0).beyond(-1, 0, 1, "fewest", 1, 0, 0);
    e.asks(-1, "fewest", 3, 0).asks(-1, "fewest", 3, 1).asks(-1, "fewest", 4, 2).anew().asks(-1, "fewest", 0, 0);
    e.on("street 5 0").beyond(-1, 0, 9, "fewest", 0, 0, 1).asks(-2, "fewest", 9, 0);
  }

  private static void down(Edges d) {
    Edge e = d.at(21, "DOWN: likewise so that no HOUSE STANDS any more.").on(EIGHT).asks(8, "down", 0);
    e.asks(255, "down", 1);
    e.on(WEAK).asks(0, "down", 0).asks(0, "down", 1).on(DOWN).asks(0, "down", 0).does(3, "year").asks(0, "down", 0);
    e.asks(0, "down", 1).on("street 1 0;house 0 2 0;house 1 1 0;line 0 1 1;line 0 1 1").asks(1, "down", 0);
    e.asks(1, "down", 1);
    e.on("street 2 0;house 0 1 0;house 1 1 0;house 2 1 0;house 3 1 0;line 0 2 1;line 1 3 1").asks(2, "down", 0);
    e.asks(3, "down", 1).does(5, "cut", 0).asks(1, "down", 0).asks(2, "down", 1);

    e = d.at(21, "-2: by none. NONE for others, or without a STREET.").rich().beyond(-1, 0, 1, "down", 0, 0);
    e.on("street 1 0").asks(-2, "down", 0).asks(-2, "down", 1).on("street 1 0;house 0 1 0").asks(-2, "down", 0);
    e.on("street 1 0;house 0 9 9;house 1 1 0;line 0 1 1").asks(-2, "down", 1).anew().asks(-1, "down", 0);
    e.asks(-1, "down", 1);
  }

  private static void byThese(Edges d) {
    Edge e = d.at(22, "the fewest LINES that are UP, none too, by which no HOUSE falls");
    e.on("street 1 0").asks(0, "byThese", 0).asks(0, "byThese", 1).on("street 1 0;house 0 5 5;line 0 1 9");
    e.asks(0, "byThese", 0).asks(0, "byThese", 1).on("street 1 0;house 0 6 5;line 0 1 1").asks(1, "byThese", 0);
    e.asks(1, "byThese", 1).on(EIGHT.replace("house 1 1 0", "house 1 8 0")).asks(8, "byThese", 0);
    e.asks(255, "byThese", 1);
    e.on(EIGHT).asks(1, "byThese", 0).asks(1, "byThese", 1).does(0, "cut", 0).asks(1, "byThese", 0);
    e.asks(2, "byThese", 1);
    e.on(EIGHT.replace("house 1 1 0", "house 1 7 0")).asks(7, "byThese", 0).asks(127, "byThese", 1);
    e.on("street 1 0;house 0 5 0;line 0 1 2;line 0 1 3;line 0 1 5").asks(1, "byThese", 0).asks(4, "byThese", 1);
    e.on(DOWN).does(3, "year").asks(0, "byThese", 0).asks(0, "byThese", 1);

    e = d.at(22, "-2: by none. NONE for others, or without a STREET.").rich().beyond(-1, 0, 1, "byThese", 0, 0);
    e.on(WEAK);
    e.asks(-2, "byThese", 0).asks(-2, "byThese", 1).on("street 1 0;house 0 1 0").asks(-2, "byThese", 0);
    e.on("street 1 0;house 0 9 0;line 0 1 8").asks(-2, "byThese", 1).on("street 1 0;house 0 8 0;line 0 1 8");
    e.asks(1, "byThese", 1).anew().asks(-1, "byThese", 0).asks(-1, "byThese", 1);
  }

  private static void way(Edges d) {
    Edge e = d.at(23, "by which one comes from the one to the other (0 to itself)").rich().asks(0, "way", 0, 0);
    e.asks(0, "way", 3, 3).asks(2, "way", 0, 1).asks(1, "way", 2, 1);
    e.on("street 5 0;line 0 5 1;line 1 5 1;line 1 6 1;line 2 6 1;line 2 7 1;line 3 7 1;line 3 8 1;line 4 8 1");
    for (int steps = 0; steps <= 8; steps++) {
      int house = steps % 2 == 0 ? steps / 2 : 5 + steps / 2;
      e.asks(steps, "way", 0, house).asks(steps, "way", house, 0);
    }
    e.asks(0, "way", 9, 9).on("street 2 0;line 0 2 1;line 1 2 1;line 1 3 1;line 0 3 1").asks(1, "way", 0, 3);

    e = d.at(23, "WAY; -2: there is none; NONE without these.").rich().beyond(-1, 0, 3, "way", 0, 0, 0);
    e.beyond(-1, 0, 3, "way", 1, 0, 0).asks(-1, "way", 4, 4).asks(-2, "way", 0, 3).asks(-2, "way", 3, 0);
    e.on("street 1 0").asks(-2, "way", 0, 1).beyond(-1, 0, 1, "way", 1, 0, 0).on("street 5 0").asks(-2, "way", 9, 0);
    e.beyond(-1, 0, 9, "way", 0, 0, 0).anew().asks(-1, "way", 0, 0).asks(-1, "way", 0, 1);
    e.on("street 1 0;line 0 1 1").asks(1, "way", 0, 1).does(0, "cut", 0).asks(-2, "way", 0, 1);
  }

  private static void blocks(Edges d) {
    Edge e = d.at(24, "HOUSES that STAND, each with all to whom there is a WAY: how many").on("street 5 0");
    e.asks(10, "blocks", -1).asks(1, "blocks", 0).asks(512, "blocks", 9).on(DOWN).asks(2, "blocks", -1).does(3, "year");
    e.asks(0, "blocks", -1).on("street 1 0;line 0 1 1").asks(1, "blocks", -1).asks(3, "blocks", 0).asks(3, "blocks", 1);
    e.rich().asks(1, "blocks", -1).asks(7, "blocks", 2);
    e.on("street 5 0;line 0 5 1;line 1 5 1;line 1 6 1;line 2 6 1;line 2 7 1;line 3 7 1;line 3 8 1;line 4 8 1");
    e.asks(2, "blocks", -1).asks(511, "blocks", 0).asks(511, "blocks", 4).asks(512, "blocks", 9);

    e = d.at(24, "-2 without that HOUSE (that STANDS), or a STREET.").rich().beyond(-2, -1, 2, "blocks", 0, 0);
    e.asks(-2, "blocks", 3).asks(-2, "blocks", -2).on("street 5 0").beyond(-2, -1, 9, "blocks", 0, 0);
    e.anew().asks(-2, "blocks", -1).asks(-2, "blocks", 0).on(DOWN).does(3, "year").asks(-2, "blocks", 0);
  }

  private static void propped(Edges d) {
    Edge e = d.at(25, "PROPPED of a HOUSE that STANDS for n YEARS (1 to 40)").rich();
    e.beyond(-1, 1, 40, "propped", 1, 0, 1);
    fallsIn(e, 40).asks(0, "propped", 0, 40);
    fallsIn(e, 39).asks(5, "propped", 0, 40).asks(0, "propped", 0, 39);
    fallsIn(e, 1).asks(0, "propped", 0, 1).asks(5, "propped", 0, 2);
    fallsIn(e, 0).asks(5, "propped", 0, 1);

    e = d.at(25, "the least number 0 to 60 of more FOOT").on("street 1 0;house 0 60 0;house 1 60 30");
    e.asks(60, "propped", 0, 1).asks(30, "propped", 1, 1).asks(60, "propped", 0, 40);
    e.on("street 1 0;house 0 60 1").asks(59, "propped", 0, 1).asks(0, "propped", 1, 1);
    e.on("street 1 0;house 0 1 0").asks(1, "propped", 0, 1).on("street 1 0;house 0 1 1").asks(0, "propped", 0, 1);
    // The least is not always the last that does: by 4 the line stays, by 5 to 19 it does not.
    e.on("street 1 0;house 0 20 0;line 0 1 16").rule(0, "keep 5-footodd").does(-1, "force", 0).asks(4, "propped", 0, 1);

    e = d.at(25, "PROPPED; -2: by none; NONE without these.").rich().beyond(-1, 0, 2, "propped", 0, 0, 1);
    e.asks(-1, "propped", 3, 1).asks(-1, "propped", 3, 40).on("street 5 0").beyond(-1, 0, 9, "propped", 0, 0, 40);
    e.asks(0, "propped", 9, 40).anew().asks(-1, "propped", 0, 1);
  }

  private static void marry(Edges d) {
    Edge e = d.at(26, "MARRY what NONE: how many, 0 to 4: with whom that ODD HOUSE is");
    e.on("street 5 0;line 0 9 1;line 1 8 1;line 2 7 1;line 3 6 1;line 4 5 1").asks(5, "marry", -1);
    for (int odd = 0; odd < 5; odd++) {
      e.asks(9 - odd, "marry", odd);
    }
    // Nothing of it is in the next one.
    e.does(5, "marry", -1).street(0, "street 1 0").asks(0, "marry", -1).asks(-1, "marry", 0);
    e.on("street 5 0").asks(0, "marry", -1).asks(-1, "marry", 0).asks(-1, "marry", 4);
    e.on("street 5 0;line 4 9 1").asks(1, "marry", -1).asks(-1, "marry", 0).asks(-1, "marry", 3).asks(9, "marry", 4);
    e.on("street 2 0;line 0 3 1").asks(1, "marry", -1).asks(3, "marry", 0).asks(-1, "marry", 1);
    e.on("street 2 0;line 1 3 1").asks(1, "marry", -1).asks(-1, "marry", 0).asks(3, "marry", 1);

    e = d.at(26, "(NONE: with nobody; -2: there is none such). -3 for others, or without a STREET.").rich();
    e.beyond(-3, -1, 4, "marry", 0, 0).asks(-2, "marry", 2).asks(-2, "marry", 3).asks(-2, "marry", 4);
    e.asks(1, "marry", -1);
    e.asks(-1, "marry", 0).asks(2, "marry", 1);
    for (int size = 1; size < 5; size++) {
      e.on("street " + size + " 0").asks(-1, "marry", size - 1).asks(-2, "marry", size).asks(-3, "marry", 5);
    }
    e.anew().asks(-3, "marry", -1).asks(-3, "marry", 0).asks(-3, "marry", 4);

    e = d.at(26, "of these the first (by ODD HOUSES, nobody ahead of the least EVEN one)");
    e.on("street 2 0;line 0 2 1;line 1 2 1").asks(1, "marry", -1).asks(-1, "marry", 0).asks(2, "marry", 1);
    e.on("street 2 0;line 0 3 1;line 0 2 1").asks(1, "marry", -1).asks(2, "marry", 0).asks(-1, "marry", 1);
    e.on("street 2 0;line 0 2 1;line 0 3 1;line 1 2 1").asks(2, "marry", -1).asks(3, "marry", 0).asks(2, "marry", 1);
    e.on("street 3 0;line 0 3 1;line 1 3 1;line 2 3 1").asks(-1, "marry", 1).asks(3, "marry", 2).asks(1, "marry", -1);
    e.on("street 2 0;line 1 3 1;line 1 2 1;line 0 3 1;line 0 2 1").asks(2, "marry", 0).asks(3, "marry", 1);
    e.on("street 3 0;line 0 3 1;line 0 4 1;line 1 3 1;line 1 5 1;line 2 3 1;line 2 4 1").asks(3, "marry", -1);
    e.asks(3, "marry", 0).asks(5, "marry", 1).asks(4, "marry", 2);
    e.on("street 3 0;line 0 4 1;line 1 4 1;line 1 5 1").asks(2, "marry", -1).asks(4, "marry", 0).asks(5, "marry", 1);
    e.on("street 3 0;line 0 4 1;line 0 5 1;line 1 4 1").asks(2, "marry", -1).asks(5, "marry", 0).asks(4, "marry", 1);

    e = d.at(26, "each HOUSE once at most").on("street 1 0" + ";line 0 1 1".repeat(8)).asks(1, "marry", -1);
    e.asks(1, "marry", 0);
    e.on("street 2 0;line 0 2 1;line 0 3 1").asks(1, "marry", -1).on("street 2 0;line 0 3 1;line 1 3 1");
    e.asks(1, "marry", -1);
  }

  private static void newLine(Edges d) {
    Edge e = d.at(27, "NEW LINE for PULL (1 to 40)").rich().beyond(-2, 1, 40, "newLine", 0, 1, 1, 0);
    e.on("street 1 0;house 0 40 0").asks(2, "newLine", 40, 1, 0).asks(0, "newLine", 40, 1, 1);
    e.asks(1, "newLine", 40, 1, 2);
    e.asks(1, "newLine", 39, 1, 0).asks(-1, "newLine", 39, 1, 1).asks(-1, "newLine", 39, 1, 2);
    e.on("street 1 0;house 0 1 0").asks(2, "newLine", 1, 1, 0).on("street 1 1;house 0 1 0").asks(1, "newLine", 1, 1, 0);
    e.asks(2, "newLine", 2, 1, 0).asks(1, "newLine", 2, 2, 0);

    e = d.at(27, "if fewer than 8 are UP, or none").on(SEVEN).asks(2, "newLine", 2, 1, 0).asks(0, "newLine", 2, 1, 1);
    e.asks(1, "newLine", 1, 1, 0).does(7, "hang", 0, 1, 1).asks(1, "newLine", 40, 1, 0).asks(-1, "newLine", 40, 1, 1);
    e.asks(-1, "newLine", 40, 1, 2).on(EIGHT.replace("house 1 1 0", "house 1 8 1")).does(0, "cut", 3);
    e.does(7, "tighten", 2, 6);
    e.asks(2, "newLine", 1, 1, 0);
    // Eight there are, and one of them is not up: that one is hung.
    e.on("street 2 0;house 1 4 0" + ";line 0 2 1".repeat(8)).asks(3, "newLine", 9, 1, 0).does(2, "cut", 5);
    e.asks(3, "newLine", 9, 1, 0).on("street 2 0;house 0 0 0" + ";line 0 2 1".repeat(8)).does(0, "cut", 5);
    e.rule(0, "keep 1 if line=5").does(-1, "force", 0).asks(4, "newLine", 9, 1, 0).asks(-1, "newLine", 9, 1, 1);

    e = d.at(27, "of several none, then the least ODD one, then the least EVEN one: how many; which");
    e.on("street 5 0").asks(10, "newLine", 40, 1, 0).asks(-1, "newLine", 40, 1, 1).asks(-1, "newLine", 40, 1, 2);
    e.on("street 2 0;house 3 4 0").asks(4, "newLine", 4, 1, 0).asks(0, "newLine", 4, 1, 1).asks(3, "newLine", 4, 1, 2);
    e.on("street 2 0;house 1 4 0").asks(4, "newLine", 4, 1, 0).asks(1, "newLine", 4, 1, 1).asks(2, "newLine", 4, 1, 2);
    e.on("street 2 0;house 0 4 0;house 1 4 0;house 2 4 0;house 3 4 0").asks(2, "newLine", 4, 1, 0);
    e.asks(0, "newLine", 4, 1, 1).asks(2, "newLine", 4, 1, 2);
    e.on("street 5 0;house 4 4 0;house 9 4 0").asks(10, "newLine", 4, 1, 0).asks(4, "newLine", 4, 1, 1);
    e.asks(9, "newLine", 4, 1, 2);

    e = d.at(27, "the ODD and the EVEN HOUSE that STAND").on(DOWN).asks(2, "newLine", 1, 1, 0).does(3, "year");
    e.asks(0, "newLine", 40, 1, 0).asks(-1, "newLine", 40, 1, 1).asks(-1, "newLine", 40, 1, 2);
    e.on("street 2 0;house 0 1 0").does(1, "year").does(0, "hang", 1, 2, 9).asks(3, "newLine", 9, 1, 0);
  }

  private static void newLineYears(Edges d) {
    Edge e = d.at(27, "for PULL (1 to 40) and n YEARS (1 to 40)").rich().beyond(-2, 1, 40, "newLine", 1, 1, 1, 0);
    e.on("street 1 0;house 0 5 0").rule(0, "keep 40-year").rule(1, "keep 39-year").rule(2, "keep 1-year");
    e.does(-1, "force", 0).asks(2, "newLine", 5, 40, 0).asks(0, "newLine", 5, 40, 1);
    e.does(0, "force", 1).asks(1, "newLine", 5, 40, 0).asks(-1, "newLine", 5, 40, 1).asks(2, "newLine", 5, 39, 0);
    e.does(1, "force", 2).asks(2, "newLine", 5, 1, 0).asks(1, "newLine", 5, 2, 0);

    e = d.at(27, "NEW LINE what 0: how many, 1, 2: which (NONE: none). -2 without these, or a STREET.").rich();
    e.beyond(-2, 0, 2, "newLine", 2, 1, 1, 0).asks(-2, "newLine", 0, 0, 0).asks(-2, "newLine", 41, 41, 3);
    e.anew().asks(-2, "newLine", 1, 1, 0).asks(-2, "newLine", 1, 1, 1).asks(-2, "newLine", 40, 40, 2);
  }

  private static void pulled(Edges d) {
    Edge e = d.at(28, "numbers 1 to 40 as PULL, in place of what it told");
    e.on("street 1 0;house 0 40 0;line 0 1 9").asks(40, "pulled", 0, 0).asks(1, "pulled", 0, 1);
    e.does(1, "note", 0, 0, 1);
    e.asks(1, "pulled", 0, 0).asks(40, "pulled", 0, 1);
    e.on("street 1 0;house 0 41 0;line 0 1 9").does(1, "note", 0, 0, 1).asks(0, "pulled", 0, 0);
    e.asks(-2, "pulled", 0, 1);
    e.on("street 1 0;house 0 1 0;line 0 1 9").does(1, "note", 0, 0, 0).asks(0, "pulled", 0, 0).asks(-2, "pulled", 0, 1);
    e.on("street 1 0;house 0 2 0;line 0 1 9").does(1, "note", 0, 0, 0).asks(1, "pulled", 0, 0).asks(1, "pulled", 0, 1);
    e.on("street 1 0;house 0 20 0;line 0 1 9").does(1, "note", 0, 0, 1).asks(21, "pulled", 0, 0);
    e.asks(20, "pulled", 0, 1);

    e = d.at(28, "PULLED of a LINE that the text told").on("street 1 0" + ";line 0 1 1".repeat(7)).does(0, "cut", 6);
    e.asks(40, "pulled", 6, 0).asks(40, "pulled", 0, 0).does(6, "hang", 0, 1, 9).does(7, "hang", 0, 1, 9);
    e.asks(40, "pulled", 6, 0).asks(-1, "pulled", 7, 0).beyond(-1, 0, 6, "pulled", 0, 0, 0);
    e.on("street 1 0").asks(-1, "pulled", 0, 0).does(0, "hang", 0, 1, 9).asks(-1, "pulled", 0, 0).on(EIGHT);
    e.beyond(-1, 0, 7, "pulled", 0, 0, 0).asks(40, "pulled", 7, 0);
    // As the text told it: what was done by hand is not so then.
    e.on("street 1 1;house 0 3 0;line 0 1 4").does(9, "prop", 0, 9).does(5, "tighten", 0, 1).does(0, "year");
    e.does(1, "note", 0, 0, 1).asks(37, "pulled", 0, 0).asks(4, "pulled", 0, 1);
    // From the begin on, which was year 0, by the rule that is in force now.
    fallsIn(e, 2).does(0, "year").does(1, "note", 1, 0, 1).asks(36, "pulled", 0, 0).does(2, "note", 2, 0, 0);
    e.asks(36, "pulled", 0, 0).asks(5, "pulled", 0, 1).does(0, "force", -1).asks(0, "pulled", 0, 0);

    e = d.at(28, "PULLED what 0: how many, 1: the least (-2: there is none). NONE without these.").rich();
    e.beyond(-1, 0, 1, "pulled", 1, 0, 0).beyond(-1, 0, 2, "pulled", 0, 0, 0).anew().asks(-1, "pulled", 0, 0);
    e.asks(-1, "pulled", 0, 1).rich().does(3, "note", 0, 0, 1).does(4, "note", 0, 0, 0).asks(0, "pulled", 0, 0);
    e.asks(-2, "pulled", 0, 1).asks(-2, "pulled", 2, 1).asks(-1, "pulled", 3, 1);
  }

  private static void rests(Edges d) {
    Edge e = d.at(29, "RESTS of two HOUSES that STAND for n YEARS (1 to 20)").rich();
    e.beyond(-1, 1, 20, "rests", 2, 0, 1, 1, 0).on("street 1 0;line 0 1 1");
    // While the line is up behind the last year, there are two rests; else four.
    e.rule(0, "keep 20-year").rule(1, "keep 19-year").rule(2, "keep 1-year").rule(3, "keep 0");
    e.does(-1, "force", 0).asks(2, "rests", 0, 1, 20, 0).does(0, "force", 1).asks(4, "rests", 0, 1, 20, 0);
    e.asks(2, "rests", 0, 1, 19, 0).does(1, "force", 2).asks(2, "rests", 0, 1, 1, 0).asks(4, "rests", 0, 1, 2, 0);
    e.does(2, "force", 3).asks(4, "rests", 0, 1, 1, 0);

    // House 0 falls in the first year, whatever is done; or in the second, if both hold, so that it won't let go then.
    e = d.at(29, "each has in how many of these YEARS it STANDS behind").on("street 1 1;house 0 5 0;line 0 1 5");
    e.asks(4, "rests", 0, 1, 1, 0).asks(4, "rests", 0, 1, 2, 0).on("street 1 1;house 0 5 0;line 0 1 6");
    e.asks(3, "rests", 0, 1, 2, 0).asks(3, "rests", 1, 0, 20, 0).asks(2, "rests", 0, 1, 1, 0);
    e.asks(0, "rests", 0, 1, 2, 1).asks(0, "rests", 0, 1, 2, 2).asks(0, "rests", 1, 0, 20, 1);
    e.asks(0, "rests", 1, 0, 20, 2);

    // House 0 has 1 for the line that house 1 lets go, or not; house 1 has none of it.
    e = d.at(29, "and 1 for each of its LINES that is UP behind the last one").on("street 2 0;line 0 2 1;line 1 3 1");
    e.asks(1, "rests", 0, 1, 1, 0).asks(0, "rests", 0, 1, 1, 1).asks(0, "rests", 0, 1, 1, 2);
    e.asks(1, "rests", 0, 1, 20, 0).asks(2, "rests", 0, 2, 20, 0).does(0, "cut", 1);
    e.asks(2, "rests", 0, 1, 1, 0).asks(4, "rests", 1, 3, 1, 0).on("street 1 1;line 0 1 20");
    e.asks(2, "rests", 0, 1, 19, 0);
    e.asks(4, "rests", 0, 1, 20, 0);

    // Both hold, and it gives way: house 0 is weak and falls in any case, so all are rests.
    e = d.at(29, "it GIVES WAY behind both, if both HOLD, too").on("street 1 0;house 0 9 0;line 0 1 1");
    e.asks(4, "rests", 0, 1, 1, 0).asks(0, "rests", 0, 1, 1, 1).asks(0, "rests", 0, 1, 1, 2);
    // House 3 falls ahead of the year, so that three stand as it begins, and the line of house 0 is let go.
    e.on("street 2 0;house 3 9 0;line 0 2 1;line 1 3 1").rule(0, "keep standing-3").rule(1, "keep standing-2");
    e.does(-1, "force", 0).asks(4, "rests", 0, 1, 1, 0).does(0, "force", 1).asks(2, "rests", 0, 1, 1, 0);
  }

  private static void restsOfTwo(Edges d) {
    Edge e = d.at(29, "the first (0 HOLDS, 1 LETS GO; by the first one, then the second one)");
    // The rule lets all go, while four are up: who lets go saves the others. Nobody has ever more by letting go, so
    // that both hold is always a rest, and the first.
    e.on("street 2 0;line 0 2 1;line 0 2 1;line 1 3 1;line 1 3 1").rule(0, "keep 4-up").does(-1, "force", 0);
    e.asks(3, "rests", 0, 1, 1, 0).asks(0, "rests", 0, 1, 1, 1).asks(0, "rests", 0, 1, 1, 2);
    e.asks(0, "rests", 1, 0, 1, 1).asks(0, "rests", 1, 0, 1, 2);

    e = d.at(29, "RESTS what 0: how many, 1, 2: ways of the first (-2: there is none).").rich();
    e.beyond(-1, 0, 2, "rests", 3, 0, 1, 1, 0);

    e = d.at(29, "NONE without these (unlike, that STAND).").rich().beyond(-1, 0, 2, "rests", 0, 0, 1, 1, 0);
    e.beyond(-1, 0, 2, "rests", 1, 1, 0, 1, 0).asks(-1, "rests", 0, 0, 1, 0).asks(-1, "rests", 2, 2, 20, 1);
    e.asks(-1, "rests", 3, 0, 1, 0).asks(-1, "rests", 0, 3, 1, 0).asks(-1, "rests", 3, 3, 1, 0).anew();
    e.asks(-1, "rests", 0, 1, 1, 0).on("street 5 0").beyond(-1, 0, 9, "rests", 0, 0, 1, 1, 0);
    e.asks(4, "rests", 0, 9, 1, 0);
    e.asks(4, "rests", 9, 0, 20, 0).on(DOWN).does(3, "year").asks(-1, "rests", 0, 1, 1, 0);
  }

  private static void pence(Edges d) {
    Edge e = d.at(30, "PENCE (0 to 9999)").rich().beyond(-1, 0, 9999, "pence", 0, 0, 0).asks(0, "pence", 0, 0);
    e.asks(0, "pence", 0, 2).asks(4999, "pence", 9999, 0).asks(2000, "pence", 9999, 1).asks(3000, "pence", 9999, 2);
    e.on("street 1 0;house 0 60 0;house 1 60 0").asks(5000, "pence", 9999, 0).asks(4999, "pence", 9999, 1);
    StringBuilder all = new StringBuilder("street 5 0");
    for (int house = 0; house < 10; house++) {
      all.append(";house " + house + " 60 0");
    }
    e.on(all.toString()).asks(1000, "pence", 9999, 0).asks(1000, "pence", 9999, 8).asks(999, "pence", 9999, 9);
    e.asks(1, "pence", 1, 0).asks(0, "pence", 1, 1).asks(1, "pence", 9, 8).asks(0, "pence", 9, 9);

    e = d.at(30, "what is left, one each, to those whose part lost most by that, of several the least first");
    e.on("street 2 0;house 0 1 9;house 1 1 9;house 2 1 9");
    int[][] want = {{4, 3, 3, 0}, {4, 4, 3, 0}, {3, 3, 3, 0}, {1, 0, 0, 0}, {0, 0, 0, 0}};
    int[] much = {10, 11, 9, 1, 0};
    for (int i = 0; i < much.length; i++) {
      for (int house = 0; house < 4; house++) {
        e.asks(want[i][house], "pence", much[i], house);
      }
    }
    // 100 by 10, 4, 6, 9 of 29: 34 and 14, 13 and 23, 20 and 20, 31 and 1 lost; two are left.
    e.on(Checks.STEADY).asks(34, "pence", 100, 0).asks(14, "pence", 100, 1).asks(21, "pence", 100, 2);
    e.asks(31, "pence", 100, 3);

    e = d.at(30, "(nothing, if all LEAN 0)").on("street 1 0").asks(0, "pence", 9999, 0).asks(0, "pence", 9999, 1);
    e.on("street 1 0;house 1 1 0").asks(0, "pence", 9999, 0).asks(9999, "pence", 9999, 1).does(2, "year");
    e.asks(0, "pence", 9999, 0).asks(0, "pence", 9999, 1);

    e = d.at(30, "PENCE of a HOUSE (0, if it does not STAND); NONE without these.").rich().asks(0, "pence", 9999, 3);
    e.beyond(-1, 0, 3, "pence", 1, 100, 0).asks(-1, "pence", 10000, 3).asks(-1, "pence", -1, 4);
    e.on("street 5 0").beyond(-1, 0, 9, "pence", 1, 1, 0).anew().asks(-1, "pence", 0, 0);
  }
}

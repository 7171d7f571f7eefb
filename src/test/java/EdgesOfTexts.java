/** Boundaries of promises 1 to 6: a new object, feed, end, street, rule, force; the two languages and their faults. */
final class EdgesOfTexts {
  private static final int BLANKS = 0x20202020;
  private static final String EIGHT = "street 1 0" + ";line 0 1 1".repeat(8);
  private static final String TWELVE = "keep 1" + ";keep 1".repeat(11);
  private static final String SIXTY = "keep 1" + "+1".repeat(59);
  /** 2 to the 63rd, as it goes round in 64 bits: the least number that there is. */
  private static final String LEAST = "65536*65536*65536*32768";

  private EdgesOfTexts() {
  }

  static void run(Edges d) {
    newObject(d);
    feed(d);
    end(d);
    tapeOfStreet(d);
    clausesOfStreet(d);
    housesOfStreet(d);
    linesOfStreet(d);
    tapeOfRule(d);
    clausesOfRule(d);
    numbersAndWords(d);
    signs(d);
    reckoning(d);
    blanks(d);
    depths(d);
    parts(d);
    faults(d);
    placesOfFaults(d);
    force(d);
  }

  private static void newObject(Edges d) {
    Edge e = d.at(1, "No STREET, no RULES, none IN FORCE.");
    for (int what = 0; what <= 13; what++) {
      e.asks(what == 4 ? -1 : 0, "count", what);
    }
    e.asks(-1, "house", 0, 0).asks(-1, "line", 0, 0).asks(-1, "year").asks(-1, "tighten", 0, 1).asks(-1, "cut", 0);
    e.asks(-1, "hang", 0, 1, 1).asks(-1, "prop", 0, 1).asks(-1, "undo").asks(-1, "ahead", 0, 0).asks(-1, "falls", 0);
    e.asks(-1, "lasts", 0).asks(-1000, "spare", 0).asks(-1, "needed").asks(-1, "fewest", 0, 0).asks(-1, "down", 0);
    e.asks(-1, "byThese", 0).asks(-1, "way", 0, 0).asks(-2, "blocks", -1).asks(-2, "blocks", 0);
    e.asks(-1, "propped", 0, 1).asks(-3, "marry", -1).asks(-3, "marry", 0).asks(-2, "newLine", 1, 1, 0);
    e.asks(-1, "pulled", 0, 0).asks(-1, "rests", 0, 1, 1, 0).asks(-1, "pence", 0, 0).asks(-2, "note", 0, 0, 0);
    e.asks(0, "note", -1, 0, 0).asks(-3, "ruled", 0).asks(-1, "look", 0, 0).asks(-1, "winters", 1, 1, 0, 0);
    e.asks(-2, "force", 0).asks(-1, "force", -1).asks(-1, "back", 0).asks(-1, "back", 3);
    d.at(1, "`NONE = -1`: None.").asks(TannerBunting.NONE, "count", 4).asks(-1, "count", 4);
    // 511 calls, then one more that answers still.
    Edge last = d.at(1, "An object is used for at most 512 calls after it has been made").on("street 1 0");
    for (int n = 0; n < 507; n++) {
      last.does(0, "year");
    }
    last.does(507, "count", 5);
  }

  private static void feed(Edges d) {
    Edge e = d.at(2, "NONE, and none comes, if it would have more than 400").tape("street 1 3          ");
    for (int n = 40; n <= 400; n += 20) {
      e.does(n, "feed", BLANKS, BLANKS, BLANKS, BLANKS, BLANKS);
    }
    e.asks(-1, "feed", BLANKS, BLANKS, BLANKS, BLANKS, BLANKS).asks(-1, "feed", 1, 2, 3, 4, 5);
    e.does(399, "end", 399).asks(-1, "feed", 1, 2, 3, 4, 5).does(381, "end", 381).asks(-1, "feed", 1, 2, 3, 4, 5);
    e.does(380, "end", 380).does(400, "feed", BLANKS, BLANKS, BLANKS, BLANKS, BLANKS).asks(-1, "feed", 0, 0, 0, 0, 0);
    e.does(0, "street").asks(3, "count", 1).asks(0, "count", 13);

    e = d.at(2, "Twenty bytes come behind the TAPE").does(20, "feed", 0, 0, 0, 0, 0).does(0, "end", 0);
    e.does(20, "feed", 0x73747265, 0x65742035, 0x20202020, 0x20202020, 0x20202020).does(9, "end", 9);
    e.does(29, "feed", 0x37202020, BLANKS, BLANKS, BLANKS, 0x20202038).does(-2 - (1 + 8 * 28), "street");

    // The first byte of each number is its highest, the last its lowest; bytes of 128 to 255 are none of the language.
    e = d.at(2, "of each number the highest first");
    e.does(20, "feed", 0x73747265, 0x65743520, 0x393b6c69, 0x6e652034, 0x20352031).does(1, "street");
    e.asks(5, "count", 0).asks(9, "count", 1).asks(4, "line", 0, 0).asks(5, "line", 0, 1).asks(1, "line", 0, 2);
    e.anew().bad("street", "^\u0080", 0).bad("street", "^\u00ff", 0).bad("street", "street 1 0^\u00a0", 0);
    e.bad("street", "street 1 0^\u00bb", 0).bad("rule", "keep 1^\u00ab1", 0);
  }

  private static void end(Edges d) {
    Edge e = d.at(3, "NONE, and nothing happens, if it has not so many").asks(0, "end", 0);
    e.beyond(-1, 0, 0, "end", 0, 0);
    e.does(20, "feed", 0x73747265, 0x65742031, 0x20393920, BLANKS, BLANKS).asks(20, "end", 20);
    e.beyond(-1, 0, 20, "end", 0, 0).does(12, "end", 12).asks(-1, "end", 13).asks(-1, "end", 20).asks(12, "end", 12);
    e = d.at(3, "or n is below 0").rich().asks(-1, "end", -1).asks(-1, "end", Integer.MIN_VALUE);

    e = d.at(3, "The TAPE has its first n bytes alone: n").tape("street 1 99 ");
    e.does(10, "end", 10).does(0, "street").asks(9, "count", 1).asks(0, "count", 13).does(0, "end", 0);
    e.tape("street 1 9").does(9, "end", 9).does(-2 - (1 + 8 * 9), "street");
    e.tape("street 1 9").does(0, "end", 0).does(-2 - 1, "street");
    // What was cut off does not come again.
    e.tape("street 1 9;x").does(10, "end", 10).does(30, "feed", BLANKS, BLANKS, BLANKS, BLANKS, BLANKS);
    e.does(0, "street");
  }

  private static void tapeOfStreet(Edges d) {
    Edge e = d.at(4, "A STREET is a text of at most 400 bytes");
    e.taken(1, "street", "street 1 0" + " ".repeat(378) + ";line 0 1 40");
    e.taken(0, "street", "street 1 0" + " ".repeat(390)).bad("street", "street 1 0;" + " ".repeat(389) + "^", 0);
    e.bad("street", "street 1 0" + " ".repeat(389) + "^x", 0).bad("street", " ".repeat(399) + "^x", 0);
    e.bad("street", " ".repeat(400) + "^", 0).bad("street", "^" + ";".repeat(400), 0);
    e.bad("rule", "^" + "x".repeat(400), 0);
    e.taken(0, "street", " ".repeat(390) + "street 1 9");

    e = d.at(4, "no NOTES, nothing to be UNDONE; the RULE IN FORCE and x stay").rich().tape("street 1 7");
    e.does(0, "street");
    int[] want = {1, 7, 0, 2, 1, 0, 3, 0, 0, 0, 0, 0, 77, 0};
    for (int what = 0; what < want.length; what++) {
      e.asks(want[what], "count", what);
    }
    e.asks(-1, "undo").asks(3, "ruled", 0).asks(-1, "house", 2, 0).asks(-1, "house", 3, 2).asks(-1, "line", 0, 0);
    e.asks(-1, "pulled", 0, 0).asks(0, "house", 0, 0).asks(0, "house", 0, 1);

    e = d.at(4, "-2 - its FAULT, and all stays").rich();
    e.bad("street", "^", 0).bad("street", "street 1^", 0);
    e.bad("street", "street 5 9;house 0 9 9;line 0 5 40;^keep 1", 0);
    // Nothing of a text with a fault is in the next one.
    e.anew().street(-2 - (1 + 8 * 34), "street 2 9;house 0 9 9;line 0 2 5;").street(0, "street 2 0");
    e.asks(0, "house", 0, 0).asks(0, "house", 0, 1).asks(0, "count", 2).asks(0, "count", 7).asks(15, "count", 6);
    e.anew().street(-2 - (1 + 8 * 7 + 1), "street 6 9").asks(0, "count", 0).asks(-1, "year");

    e = d.at(4, "how many LINES").taken(0, "street", "street 1 0").taken(8, "street", EIGHT);
  }

  private static void clausesOfStreet(Edges d) {
    Edge e = d.at(4, "CLAUSE { ; CLAUSE }").rich();
    e.bad("street", "^", 0).bad("street", "    ^", 0).bad("street", "^;", 0).bad("street", "^;street 1 0", 0);
    e.bad("street", "street 1 0;^", 0).bad("street", "street 1 0;^;house 0 0 0", 0);
    e.bad("street", "street 1 0^,house 0 0 0", 0).bad("street", "street 1 0 ^house 0 0 0", 0);
    e.taken(0, "street", "street 1 0").taken(0, "street", " street 1 0 ; house 0 0 0 ");

    // No text of 400 bytes has more than 37 of them.
    String most = "street1 0" + ";line0 1 1".repeat(8) + ";house1 7 8".repeat(28);
    e = d.at(4, "40 at most").anew().street(8, most).asks(255, "count", 7).asks(7, "house", 1, 0);
    e.asks(8, "house", 1, 1);
    e.bad("street", most + "^h", 0).bad("street", most + ";^", 0);

    e = d.at(4, "LONG 1 to 5").rich();
    e.bad("street", "street ^0 0", 1).bad("street", "street ^6 0", 1).bad("street", "street ^99999 0", 1);
    e.bad("street", "street ^256 0", 1).bad("street", "street ^65537 0", 1).bad("street", "street ^-1 0", 0);
    e.on("street 1 0").asks(1, "count", 0).asks(3, "count", 6).on("street 5 0").asks(5, "count", 0);
    e.asks(1023, "count", 6);

    e = d.at(4, "FADES 0 to 9").rich();
    e.bad("street", "street 1 ^10", 1).bad("street", "street 1 ^99999", 1).bad("street", "street 1 ^-1", 0);
    e.on("street 1 0").asks(0, "count", 1).on("street 1 9").asks(9, "count", 1);

    e = d.at(4, "once, the first CLAUSE").rich().taken(0, "street", "street 1 0");
    e.bad("street", "street 1 0;^street 1 0", 4).bad("street", "street 1 0;house 0 0 0; ^street 1 0", 4);
    e.bad("street", "^house 0 0 0;street 1 0", 4).bad("street", "  ^line 0 1 1;street 1 0", 4);
  }

  private static void housesOfStreet(Edges d) {
    Edge e = d.at(4, "a HOUSE; LEAN 0 to 60; FOOT 0 to 30").rich();
    e.bad("street", "street 1 0;house ^2 0 0", 1).bad("street", "street 5 0;house ^10 0 0", 1);
    e.bad("street", "street 1 0;house ^-1 0 0", 0).bad("street", "street 1 0;house 0 ^61 0", 1);
    e.bad("street", "street 1 0;house 0 ^-1 0", 0).bad("street", "street 1 0;house 0 0 ^31", 1);
    e.bad("street", "street 1 0;house 0 0 ^-1", 0).bad("street", "street 1 0;house ^99999 0 0", 1);
    e.bad("street", "street 1 0;house 0 ^99999 0", 1).bad("street", "street 1 0;house 0 0 ^99999", 1);
    e.on("street 5 0;house 0 0 0;house 9 60 30").asks(0, "house", 0, 0).asks(0, "house", 0, 1);
    e.asks(60, "house", 9, 0).asks(30, "house", 9, 1).asks(0, "house", 8, 0);
    e.on("street 1 0;house 1 59 29;house 0 60 0").asks(59, "house", 1, 0).asks(29, "house", 1, 1);
    e.asks(60, "house", 0, 0).asks(0, "house", 0, 1);

    e = d.at(4, "of one the last told, both 0 without");
    e.on("street 1 0;house 0 60 30;house 0 1 2;house 0 0 3").asks(0, "house", 0, 0).asks(3, "house", 0, 1);
    e.asks(0, "house", 1, 0).asks(0, "house", 1, 1);

    e = d.at(4, "HOUSES 0 to LONG - 1 are ODD, LONG to 2 * LONG - 1 EVEN");
    for (int size = 1; size <= 5; size++) {
      e.on("street " + size + " 0").asks((1 << 2 * size) - 1, "count", 6);
      e.asks(1, "house", 2 * size - 1, 2).asks(-1, "house", 2 * size, 2);
      e.asks(-1, "hang", size, 2 * size - 1, 1).asks(-1, "hang", size - 1, size - 1, 1);
      e.does(0, "hang", size - 1, size, 1).does(1, "hang", 0, 2 * size - 1, 1);
    }

    e = d.at(4, "It is YEAR 0; all HOUSES STAND, all LINES are UP, whatever they hold");
    e.on("street 1 9;house 0 60 0;house 1 60 0;line 0 1 1").asks(0, "count", 5).asks(3, "count", 6).asks(1, "count", 7);
    e.asks(1, "line", 0, 2).asks(1, "house", 0, 2).asks(1, "line", 0, 3);
  }

  private static void linesOfStreet(Edges d) {
    Edge e = d.at(4, "two HOUSES, the first ODD, the second EVEN; PULL 1 to 40").rich();
    e.bad("street", "street 2 0;line ^2 2 1", 1).bad("street", "street 2 0;line 0 ^1 1", 1);
    e.bad("street", "street 2 0;line 0 ^4 1", 1).bad("street", "street 2 0;line ^4 0 1", 1);
    e.bad("street", "street 2 0;line 0 ^0 1", 1).bad("street", "street 2 0;line ^-1 2 1", 0);
    e.bad("street", "street 2 0;line 0 2 ^0", 1).bad("street", "street 2 0;line 0 2 ^41", 1);
    e.bad("street", "street 2 0;line 0 2 ^-1", 0).bad("street", "street 5 0;line ^5 5 1", 1);
    e.bad("street", "street 5 0;line 0 ^10 1", 1).bad("street", "street 1 0;line ^1 1 1", 1);
    e.on("street 2 0;line 0 2 1;line 1 3 40").asks(0, "line", 0, 0).asks(2, "line", 0, 1).asks(1, "line", 0, 2);
    e.asks(1, "line", 1, 0).asks(3, "line", 1, 1).asks(40, "line", 1, 2);
    e.on("street 5 0;line 4 9 40;line 4 5 1;line 0 9 1").asks(4, "line", 0, 0).asks(9, "line", 0, 1);
    e.asks(5, "line", 1, 1);

    e = d.at(4, "LINES 0 to 7, in the order told, several between the same two as one likes");
    e.on("street 1 0;line 0 1 1;line 0 1 2;line 0 1 3;line 0 1 4;line 0 1 5;line 0 1 6;line 0 1 7;line 0 1 8");
    for (int line = 0; line < 8; line++) {
      e.asks(line + 1, "line", line, 2);
    }
    e.asks(-1, "line", 8, 2).asks(255, "house", 0, 3).asks(255, "house", 1, 3).asks(8, "count", 2);

    e = d.at(4, "a ninth LINE (at its first byte)").rich().taken(8, "street", EIGHT);
    e.taken(8, "street", EIGHT + ";house 0 0 0").bad("street", EIGHT + ";^line 0 1 1", 4);
    e.bad("street", EIGHT + ";house 0 0 0;  ^line", 4).bad("street", EIGHT + "; ^line 9 9 99", 4);
  }

  private static void tapeOfRule(Edges d) {
    Edge e = d.at(5, "RULES 0 to 5: texts likewise");
    for (int rule = 0; rule < 6; rule++) {
      e.asks(rule, "count", 3).rule(rule, "keep " + rule).asks(0, "count", 13);
    }
    e.asks(6, "count", 3);
    e.anew().taken(0, "rule", "keep 1" + " ".repeat(394)).taken(0, "rule", " ".repeat(394) + "keep 1");
    e.bad("rule", "keep 1" + " ".repeat(393) + ";^", 0);

    e = d.at(5, "NONE, and nothing happens: there are 6").anew();
    for (int rule = 0; rule < 6; rule++) {
      e.rule(rule, "keep " + rule);
    }
    e.tape("").asks(-1, "rule").tape("keep 1").asks(-1, "rule").asks(6, "count", 13).tape("keep").asks(-1, "rule");
    e.tape("street 2 3").does(-1, "rule").asks(6, "count", 3).does(0, "street").asks(3, "count", 1);

    e = d.at(5, "its number; -2 - its FAULT").rich().bad("rule", "^", 0).bad("rule", "keep 1;^", 0);
    e.rule(-2 - (1 + 8 * 4), "keep").asks(2, "count", 3).asks(-2, "force", 2).rule(2, "keep 1").asks(3, "count", 3);
    // Nothing of a text with a fault is in the next one.
    e.on("street 1 0;line 0 1 1").rule(-2 - (1 + 8 * 15), "keep 1;keep 1; ").rule(0, "keep 0").does(-1, "force", 0);
    e.asks(0, "ahead", 1, 1).rule(-2 - (1 + 8 * 125 + 3), SIXTY + "+1").rule(1, SIXTY).asks(2, "count", 3);
  }

  private static void clausesOfRule(Edges d) {
    Edge e = d.at(5, "12 CLAUSES at most").rich();
    e.taken(2, "rule", "keep 1").taken(2, "rule", TWELVE).bad("rule", TWELVE + ";^keep 1", 4);
    e.keeps(1, "keep 0 if 1=2" + ";keep 0 if 1=2".repeat(10) + ";keep 1");
    e.keeps(0, "keep 1 if 1=2" + ";keep 1 if 1=2".repeat(10) + ";keep 0");

    e = d.at(5, "keep SUM [ if TEST ]").rich().bad("rule", "keep^", 0).bad("rule", "keep 1 if^", 0);
    e.bad("rule", "keep ^if 1=1", 0).bad("rule", "keep 1 if ^if 1=1", 0).bad("rule", "keep 1 if 1=1 ^if 1=1", 0);
    e.bad("rule", "^1", 0).bad("rule", "keep ^keep 1", 0).bad("rule", "^;keep 1", 0).bad("rule", "keep 1;^;keep 1", 0);
    e.taken(2, "rule", "keep 1 if 1=1").taken(2, "rule", "keep 1;keep 1 if 1=1");

    e = d.at(5, "PART { or PART }").rich().bad("rule", "keep 1 if ^or 1=1", 0).bad("rule", "keep 1 if 1=1 or^", 0);
    e.keeps(1, "keep 1 if 1=2 or 1=2 or 1=1").keeps(0, "keep 1 if 1=2 or 1=2 or 1=2").keeps(1, "keep 1 if 1=1 or 1=2");

    e = d.at(5, "FACT { and FACT }").rich().bad("rule", "keep 1 if ^and 1=1", 0).bad("rule", "keep 1 if 1=1 and^", 0);
    e.keeps(1, "keep 1 if 1=1 and 1=1 and 1=1").keeps(0, "keep 1 if 1=1 and 1=1 and 1=2");
    e.keeps(0, "keep 1 if 1=2 and 1=1").keeps(1, "keep 1 if 1=1 or 1=1 and 1=2");
    e.keeps(1, "keep 1 if 1=2 and 1=2 or 1=1");

    e = d.at(5, "not FACT | [ TEST ] (these brackets are signs)").rich();
    e.bad("rule", "keep 1 if not^", 0).bad("rule", "keep 1 if [^]", 0).bad("rule", "keep 1 if [1=1^", 0);
    e.bad("rule", "keep 1 if 1=1^]", 0).bad("rule", "keep 1 if [1^]=1", 0).bad("rule", "keep ^[1]", 0);
    e.bad("rule", "keep ^not 1", 0).bad("rule", "keep 1 if 1=^not 1", 0).bad("rule", "keep 1 if [1=1]^=1", 0);
    e.keeps(0, "keep 1 if not 1=1").keeps(1, "keep 1 if not 1=2").keeps(1, "keep 1 if not not 1=1");
    e.keeps(0, "keep 1 if not [1=1 or 1=2]").keeps(1, "keep 1 if not 1=1 or 1=1").keeps(0, "keep 1 if not 1=2 and 1=2");
    e.keeps(0, "keep 1 if [1=1 or 1=1] and 1=2").keeps(1, "keep 1 if [1=1]");
  }

  private static void numbersAndWords(Edges d) {
    Edge e = d.at(5, "NUMBER (1 to 5 digits, as far as digits go on)").rich();
    e.bad("rule", "keep ^123456", 1).bad("rule", "keep ^000001", 1).bad("rule", "keep ^" + "9".repeat(390), 1);
    e.bad("rule", "keep 12345 ^6", 0).bad("rule", "keep 12345^a", 0).bad("rule", "keep 1 if 1=^123456", 1);
    e.taken(2, "rule", "keep 0").taken(2, "rule", "keep 99999").taken(2, "rule", "keep 00000");
    e.keeps(1, "keep 99999").keeps(1, "keep 1 if 99999=10*10000-1").keeps(1, "keep 1 if 00010=10");
    e.keeps(0, "keep 00000");
    e.keeps(1, "keep 1 if 10000*10=65536+34464").keeps(1, "keep 1 if 9=8+1").keeps(1, "keep00001");

    e = d.at(4, "a NUMBER of more digits, or not as told").rich();
    e.bad("street", "street ^000001 0", 1).bad("street", "street 1 ^000000", 1);
    e.bad("street", "street 1 0;house ^000000 0 0", 1);
    e.bad("street", "street 1 0;line 0 1 ^0000001", 1).bad("street", "street ^" + "1".repeat(393), 1);
    e.taken(0, "street", "street 00001 00000").taken(1, "street", "street1 0;line00000 00001 00040");
    e.bad("street", "street 1 ^;", 0).bad("street", "street ^x 1", 0).bad("street", "street 1 0;house 0 0^", 0);
    e.bad("street", "street 1 0;line 0 1^;house 0 0 0", 0).bad("street", "street 1 0 ^0", 0);

    e = d.at(5, "small letters, as far as these go on").rich();
    for (String word : new String[] {"line", "odd", "even", "pull", "leanodd", "leaneven", "footodd", "footeven", "up",
        "standing", "fades", "year"}) {
      e.taken(2, "rule", "keep " + word).bad("rule", "keep ^" + word + "s", 0);
      e.bad("rule", "keep ^" + word.substring(1), 0);
      e.bad("rule", "keep ^" + word.substring(0, word.length() - 1), 0).bad("rule", "^keep" + word, 0);
      e.bad("rule", "keep " + word + "^1", 0).bad("rule", "keep ^" + word + word, 0);
      e.bad("rule", "keep ^" + word.toUpperCase(), 0).bad("rule", "keep ^" + word + "z", 0);
      e.bad("rule", "keep ^x" + word.substring(1), 0);
      e.bad("rule", "keep ^" + word.substring(0, word.length() - 1) + "x", 0);
      e.bad("rule", "keep ^a" + word, 0).bad("rule", "keep ^z" + word, 0);
    }
    e.bad("rule", "^kee 1", 0).bad("rule", "^keeps 1", 0).bad("rule", "keep 1 ^iff 1=1", 0);
    e.bad("rule", "keep 1 ^ifpull=1", 0);
    e.bad("rule", "keep 1 if ^notpull=1", 0).bad("rule", "keep 1 if 1=pull ^orpull=1", 0).bad("rule", "keep ^house", 0);
    e.bad("rule", "keep 1 if 1=^pulland 1=1", 0).bad("rule", "keep ^street", 0).bad("rule", "keep ^keep", 0);
    e.taken(2, "rule", "keep1if not1=1or1=1and[1=1]").bad("street", "^streets 1 0", 0).bad("street", "^stree 1 0", 0);
    e.bad("street", "street 1 0;^houses 0 0 0", 0).bad("street", "street 1 0;^lin 0 1 1", 0);
    e.taken(0, "street", "street1 0");
    // The signs ahead of a and behind z, ahead of 0 and behind 9.
    e.bad("rule", "keep ^`", 0).bad("rule", "keep ^{", 0).bad("rule", "keep ^:", 0).bad("rule", "keep 1^:", 0);
    e.bad("rule", "keep ^/", 0).bad("rule", "keep pull^`", 0).bad("rule", "keep pull^{", 0).bad("rule", "keep ^@", 0);
    e.bad("rule", "keep pull^A", 0).bad("rule", "keep 1 ^.5", 0).bad("rule", "keep ^Z", 0);
  }

  private static void signs(Edges d) {
    Edge e = d.at(5, "SIGN one of < <= = >= >").rich();
    e.bad("rule", "keep 1 if 1=^=1", 0).bad("rule", "keep 1 if 1=^<1", 0).bad("rule", "keep 1 if 1=^>1", 0);
    e.bad("rule", "keep 1 if 1<^>1", 0).bad("rule", "keep 1 if 1< ^=1", 0).bad("rule", "keep 1 if 1> ^=1", 0);
    e.bad("rule", "keep 1 if 1<=^=1", 0).bad("rule", "keep 1 if 1<^<1", 0).bad("rule", "keep 1 if 1^!=1", 0);
    e.bad("rule", "keep 1 if 1<^", 0).bad("rule", "keep 1 if ^<1", 0).bad("rule", "keep 1 if 1=1^=1", 0);
    e.bad("rule", "keep 1^<1", 0).bad("rule", "keep 1 if 1^", 0).bad("rule", "keep 1 if 1 ^and 1=1", 0);
    String[] sign = {"<", "<=", "=", ">=", ">"};
    int[][] holds = {{1, 0, 0}, {1, 1, 0}, {0, 1, 0}, {0, 1, 1}, {0, 0, 1}};
    for (int i = 0; i < sign.length; i++) {
      for (int left = 8; left <= 10; left++) {
        e.keeps(holds[i][left - 8], "keep 1 if " + left + sign[i] + "pull");
        e.keeps(holds[i][left - 8], "keep 1 if " + left + "-10" + sign[i] + "pull-10");
      }
    }
    // By all 64 bits, too.
    e.keeps(1, "keep 1 if " + LEAST + "<0").keeps(1, "keep 1 if " + LEAST + "-1>" + LEAST);
    e.keeps(0, "keep 1 if 65536*65536=0").keeps(1, "keep 1 if 65536*65536>65536").keeps(1, "keep 65536*65536");

    e = d.at(5, "SUM: TERM { (+ or -) TERM }").rich().bad("rule", "keep ^+1", 0).bad("rule", "keep ^-1", 0);
    e.bad("rule", "keep 1+^", 0).bad("rule", "keep 1-^-1", 0).keeps(1, "keep 9-4-4").keeps(0, "keep 9-4-5");
    e.keeps(1, "keep 9-4+5");
    e = d.at(5, "TERM: VALUE { (* or / or %) VALUE }").rich().bad("rule", "keep ^*1", 0).bad("rule", "keep 1*^", 0);
    e.bad("rule", "keep 1*^*1", 0).bad("rule", "keep 1/^%1", 0).keeps(1, "keep 1 if 100/7%5*2=8");
    e.keeps(1, "keep 1 if 2+3*4=14");
    e.keeps(1, "keep 1 if 2*3%4=2").keeps(1, "keep 1 if 20-2*3-4=10").keeps(1, "keep 1 if 7/2*2=6");
  }

  private static void reckoning(Edges d) {
    Edge e = d.at(5, "/ is towards 0, % its rest, both 0 by 0");
    e.keeps(1, "keep 1 if 7/0=0").keeps(1, "keep 1 if 7%0=0").keeps(1, "keep 1 if 0/0+0%0=0").keeps(0, "keep 1/0");
    e.keeps(1, "keep 1 if 7/0+7%0+5=5").keeps(1, "keep 1 if 7/7=1").keeps(1, "keep 1 if 6/7=0");
    e.keeps(1, "keep 1 if 6%7=6");
    e.keeps(1, "keep 1 if 7%7=0").keeps(1, "keep 1 if 8%7=1").keeps(1, "keep 1 if 0/7+0%7=0");
    e.keeps(1, "keep 1 if 8/1+8%1=8");
    // Below 0: three parts of the least number, and its rest, which is -2.
    e.keeps(1, "keep 1 if " + LEAST + "/3*3-2=" + LEAST).keeps(1, "keep 1 if " + LEAST + "%3+2=0");
    e.keeps(1, "keep 1 if " + LEAST + "/0=0").keeps(1, "keep 1 if " + LEAST + "%0=0").keeps(0, "keep " + LEAST + "/3");
    e.keeps(0, "keep " + LEAST + "%3");

    e = d.at(5, "all goes round in 64 bits");
    e.keeps(0, "keep " + LEAST).keeps(1, "keep " + LEAST + "-1").keeps(0, "keep " + LEAST + "-1+1");
    e.keeps(0, "keep 65536*65536*65536*65536").keeps(1, "keep 65536*65536*65536*65536+1");
    e.keeps(1, "keep 65536*65536*65536*32767");
    e.keeps(1, "keep 1 if " + LEAST + "+" + LEAST + "=0").keeps(1, "keep 1 if 0-" + LEAST + "=" + LEAST);
    e.keeps(1, "keep 1 if 65536*32768>0").keeps(1, "keep 65536*32768").keeps(1, "keep 65536*65536+1");
  }

  private static void blanks(Edges d) {
    Edge e = d.at(5, "Blanks (32) stand between as one likes").rich();
    e.taken(2, "rule", "   keep   1   +   1   if   [   1   <=   1   ]   ;   keep   1   ");
    e.taken(2, "rule", "keep1+1if[1<=1];keep1");
    e.taken(1, "street", "   street   1   0   ;   line   0   1   1   ").taken(1, "street", "street1 0;line0 1 1");
    e.bad("rule", "keep 1^\u001f", 0).bad("rule", "keep 1^!", 0).bad("rule", "keep 1^\t", 0);
    e.bad("rule", "keep 1^\n", 0);
    e.bad("rule", "keep 1^\u0000", 0).bad("street", "street 1 0^\u001f", 0).bad("street", "^\tstreet 1 0", 0);
    e.bad("street", "street 1 0^\u0000", 0).bad("street", "street^\u00001 0", 0).bad("street", "street 1 0^\u007f", 0);
    // None within a word, a number or a sign.
    e.bad("rule", "^ke ep 1", 0).bad("rule", "keep 1 ^0", 0).bad("rule", "keep ^pu ll", 0);
    e.bad("rule", "keep 1 if 1< ^=1", 0);
    e.bad("street", "^str eet 1 0", 0).bad("street", "street 1 0 ^0", 0);
  }

  private static void depths(Edges d) {
    Edge e = d.at(5, "[ and not lie within one another 10 deep at most").rich();
    e.taken(2, "rule", "keep 1 if " + "[".repeat(10) + "1=1" + "]".repeat(10));
    e.taken(2, "rule", "keep 1 if " + "not ".repeat(10) + "1=1");
    e.taken(2, "rule", "keep 1 if " + "not[".repeat(5) + "1=1" + "]".repeat(5));
    // Side by side, or one behind the other, they are no deeper.
    String ten = "[".repeat(10) + "1=1" + "]".repeat(10);
    e.taken(2, "rule", "keep 1 if " + ten + "or" + ten).taken(2, "rule", "keep 1 if " + ten + ";keep 1 if " + ten);
    e.taken(2, "rule", "keep 1 if " + "not ".repeat(10) + "1=1 and " + "not ".repeat(10) + "1=1");
    e.taken(2, "rule", "keep 1 if " + "[".repeat(9) + "[1=1] and [1=1] or not 1=1" + "]".repeat(9));
    e.keeps(1, "keep 1 if " + "not ".repeat(10) + "1=1").keeps(0, "keep 1 if " + "not ".repeat(9) + "1=1");

    e = d.at(5, "2 too deep (at the sign that opens, or the word not)").rich();
    e.bad("rule", "keep 1 if " + "[".repeat(10) + "^[1=1" + "]".repeat(11), 2);
    e.bad("rule", "keep 1 if " + "not ".repeat(10) + "^not 1=1", 2);
    e.bad("rule", "keep 1 if " + "not ".repeat(10) + "^[1=1]", 2);
    e.bad("rule", "keep 1 if " + "[".repeat(10) + " ^not 1=1" + "]".repeat(10), 2);
    e.bad("rule", "keep 1 if " + "not[".repeat(5) + "1=1 and ^[1=1]", 2);
    e.bad("rule", "keep 1 if " + "[".repeat(10) + "^[", 2);
    e.bad("rule", "keep 1 if [[1=1] or " + "not ".repeat(9) + "^not 1=1]", 2);
    e.bad("rule", "keep 1 if " + "[".repeat(10) + "^[" + "[".repeat(300), 2);
    e.bad("rule", "keep 1 if " + "[".repeat(10) + "^nots 1=1", 0).bad("rule", "keep 1 if " + "[".repeat(10) + "^]", 0);
  }

  private static void parts(Edges d) {
    Edge e = d.at(5, "at most 60 VALUES (of SUMS) and FACTS made of a SIGN, together").rich();
    e.taken(2, "rule", SIXTY).taken(2, "rule", "keep 1" + "*1".repeat(59));
    e.taken(2, "rule", "keep up" + "+up".repeat(59));
    // 19 facts of two values each are 57, three values of a sum make 60.
    String facts = "if 1=1" + " or 1=1".repeat(18);
    e.taken(2, "rule", "keep 1+1+1 " + facts);
    e.bad("rule", "keep 1+1+1+1 " + facts.substring(0, facts.length() - 1) + "^1", 3);
    e.taken(2, "rule", "keep 1 " + "if 1=1" + ";keep 1 if 1=1".repeat(11) + "+1".repeat(12));
    e.bad("rule", "keep 1 " + "if 1=1" + ";keep 1 if 1=1".repeat(11) + "+1".repeat(12) + "+^1", 3);
    // Brackets and not are none of them.
    String brackets = "keep 1 if " + "not [".repeat(5) + "1=1" + "]".repeat(5) + " or 1" + "+1".repeat(53);
    e.taken(2, "rule", brackets + "<1").bad("rule", brackets + "+1<^1", 3);

    e = d.at(5, "3 one VALUE or FACT too many (at its first byte; of a FACT at its SIGN)").rich();
    e.bad("rule", SIXTY + "+^1", 3).bad("rule", SIXTY + "*  ^pull", 3).bad("rule", SIXTY + ";keep ^1", 3);
    e.bad("rule", SIXTY + " if ^1=1", 3).bad("rule", SIXTY + " if not [^1=1]", 3).bad("rule", SIXTY + "+^99999", 3);
    String before = "keep 1" + "+1".repeat(58);
    e.bad("rule", before + " if 1^=1", 3).bad("rule", before + " if 1 ^<=1", 3).bad("rule", before + " if 1  ^>", 3);
    e.bad("rule", "keep 1" + "+1".repeat(57) + " if 1=^1", 3).taken(2, "rule", "keep 1" + "+1".repeat(56) + " if 1=1");
    e.bad("rule", "keep 1" + "+1".repeat(56) + " if 1=1+^1", 3);
    e.bad("rule", "keep 1" + "+1".repeat(56) + " if 1=1 or ^1=1", 3);
  }

  private static void faults(Edges d) {
    Edge e = d.at(4, "0 a byte or WORD that can't stand there, or the end (behind the last byte)").rich();
    e.bad("street", "^keep 1", 0).bad("street", "street 1 0;^pull", 0).bad("street", "street ^street", 0);
    e.bad("street", "street 1 0;house ^house", 0).bad("street", "street 1^;0", 0).bad("street", "street 1 0^]", 0);
    e.bad("street", "street^", 0).bad("street", "street   ^", 0).bad("street", "street 1^", 0);
    e.bad("street", "street 1 0;house^", 0);
    e.bad("street", "street 1 0;line 0^", 0).bad("street", "street 1 0;line 0 1   ^", 0).bad("street", "^0", 0);
    e.bad("rule", "^street 1 0", 0).bad("rule", "keep 1 if 1=1 ^1", 0).bad("rule", "keep 1 ^keep 1", 0);
    e.bad("rule", "keep 1   ;   ^", 0).bad("rule", "keep 1 if [  ^", 0).bad("rule", "keep 1 ^]", 0);
    e.bad("rule", "keep 1 ^,", 0);

    e = d.at(4, "4 one CLAUSE too many, a second street, another CLAUSE ahead of it").rich();
    e.bad("rule", TWELVE + ";^keep", 4).bad("rule", TWELVE + ";  ^keep x", 4);
    e.bad("rule", TWELVE + ";^keep 1;keep 1", 4);
    e.bad("street", "street 1 0;^street", 4).bad("street", "street 1 0; ^street 9 9", 4).bad("street", "^house", 4);
    e.bad("street", "^line x", 4).bad("street", "   ^house 0 0 0", 4);

    e = d.at(4, "FAULTS, the first along the text").rich();
    e.bad("street", "street ^6 10", 1).bad("street", "street 1 ^10;x", 1);
    e.bad("street", "street 1 0;house 0 ^61 31;line 9", 1);
    e.bad("street", "street 1 0;^x;street 1 0", 0).bad("street", "street 1 0;line ^1 0 41", 1);
    e.bad("rule", "keep ^123456 if x", 1).bad("rule", "keep ^x if 123456", 0).bad("rule", SIXTY + "+^1+x", 3);
    e.bad("rule", SIXTY + "^x+1", 0).bad("rule", "keep 1 if " + "not ".repeat(10) + "^not x", 2);
    e.bad("rule", "keep 1 if ^x and " + "[".repeat(20), 0);

    e = d.at(4, "Of one place the least").rich();
    e.bad("rule", SIXTY + "+^x", 0).bad("rule", SIXTY + "+^123456", 1).bad("rule", SIXTY + "+^", 0);
    e.bad("rule", SIXTY + "+^[", 0);
    e.bad("rule", TWELVE + ";^x", 0).bad("rule", TWELVE + ";^", 0).bad("rule", TWELVE + ";^123456", 0);
    e.bad("rule", "keep 1 ^123456", 0).bad("rule", "keep 1" + "+1".repeat(58) + " if 1^;", 0);
    e.bad("rule", "keep 1" + "+1".repeat(58) + " if 1 ^1", 0).bad("street", "street 1 0 ^123456", 0);
    e.bad("street", "^123456", 0);
    e.bad("street", EIGHT + ";^lines", 0).bad("street", "^keep", 0).bad("street", "street 1 0;^streets", 0);
  }

  private static void placesOfFaults(Edges d) {
    Edge e = d.at(4, "1 + 8 * its place");
    e.tape("x").does(-3, "street").tape("house").does(-7, "street").tape(" x").does(-11, "street").tape("");
    e.does(-3, "street");
    e.tape("x").does(-3, "rule").tape("keep 123456").does(-2 - (1 + 40 + 1), "rule").tape("").does(-3, "rule");
    e.tape("street 1 0" + " ".repeat(389) + "x").does(-2 - (1 + 8 * 399), "street");
    e.tape("street 1 0;" + " ".repeat(389)).does(-2 - (1 + 8 * 400), "street");
    e.tape("keep 1 +" + " ".repeat(392)).does(-2 - (1 + 8 * 400), "rule");
  }

  private static void force(Edges d) {
    Edge e = d.at(6, "-2, and nothing happens, if there is none such").anew().beyond(-2, -1, -1, "force", 0, 0);
    e.rich().beyond(-2, -1, 1, "force", 0, 0).asks(-2, "force", 2);
    for (int rule = 2; rule < 6; rule++) {
      e.asks(-2, "force", rule).rule(rule, "keep 1");
    }
    e.beyond(-2, -1, 5, "force", 0, 0);

    e = d.at(6, "A RULE is IN FORCE (NONE: none): which was").rich().does(1, "force", 0).does(0, "force", -1);
    e.asks(-1, "count", 4).does(-1, "force", -1).does(-1, "force", 1).asks(1, "force", 1).asks(1, "count", 4);
    e.anew().asks(-1, "force", -1).rule(0, "keep 1").asks(-1, "count", 4).does(-1, "force", 0).asks(0, "force", 0);
    // Without a street, too; the street that comes then is under it.
    e.anew().rule(0, "keep 0").does(-1, "force", 0).street(1, "street 1 0;line 0 1 1").asks(0, "ahead", 1, 1);
  }
}

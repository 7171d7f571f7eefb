import java.util.Arrays;

/** A street whose two sides are held on by bunting; see README.md. */
public final class TannerBunting {
  public static final int NONE = -1;

  private static final int MOST_BYTES = 400;
  private static final int FED_BYTES = 20;
  private static final int MOST_DIGITS = 5;
  private static final int MOST_LONG = 5;
  private static final int MOST_HOUSES = 10;
  private static final int MOST_LINES = 8;
  private static final int LINE_SETS = 256;
  private static final int EVEN_SETS = 32;
  private static final int MOST_FADES = 9;
  private static final int MOST_LEAN = 60;
  private static final int MOST_TOLD_FOOT = 30;
  private static final int MOST_TOLD_PULL = 40;
  private static final int MOST_BY_HAND = 60;
  private static final int MOST_AT_ONCE = 9;
  private static final int STREET_CLAUSES = 40;
  private static final int RULE_CLAUSES = 12;
  private static final int MOST_DEEP = 10;
  private static final int MOST_PARTS = 60;
  private static final int MOST_RULES = 6;
  private static final int MOST_NOTES = 10;
  private static final int MOST_UNDONE = 20;
  private static final int IMAGES = 4;
  private static final int LAST_YEAR = 999;
  private static final int YEARS_LOOKED = 200;
  private static final int YEARS_NOTED = 60;
  private static final int YEARS_AHEAD = 100;
  private static final int YEARS_PROPPED = 40;
  private static final int YEARS_RESTED = 20;
  private static final int YEARS_SNOWED = 60;
  private static final int MOST_WINTERS = 10;
  private static final int MOST_PENCE = 9999;
  private static final int NO_SPARE = -1000;

  private static final int CANT_STAND = 0;
  private static final int BAD_NUMBER = 1;
  private static final int TOO_DEEP = 2;
  private static final int PART_TOO_MANY = 3;
  private static final int BAD_CLAUSE = 4;

  // What stands at a place of a text; words come behind the signs.
  private static final int END = 0;
  private static final int STRAY = 1;
  private static final int NUMBER = 2;
  private static final int LONG_NUMBER = 3;
  private static final int SEMICOLON = 4;
  private static final int OPEN = 5;
  private static final int CLOSE = 6;
  private static final int PLUS = 7;
  private static final int MINUS = 8;
  private static final int TIMES = 9;
  private static final int OVER = 10;
  private static final int REST = 11;
  private static final int LESS = 12;
  private static final int LESS_OR_SAME = 13;
  private static final int SAME = 14;
  private static final int MORE_OR_SAME = 15;
  private static final int MORE = 16;
  private static final int FIRST_WORD = 20;
  private static final int LINE = 20;
  private static final int ODD = 21;
  private static final int EVEN = 22;
  private static final int PULL = 23;
  private static final int LEAN_ODD = 24;
  private static final int LEAN_EVEN = 25;
  private static final int FOOT_ODD = 26;
  private static final int FOOT_EVEN = 27;
  private static final int UP = 28;
  private static final int STANDING = 29;
  private static final int FADES = 30;
  private static final int YEAR = 31;
  private static final int STREET = 32;
  private static final int HOUSE = 33;
  private static final int KEEP = 34;
  private static final int IF = 35;
  private static final int OR = 36;
  private static final int AND = 37;
  private static final int NOT = 38;
  private static final int PAST_WORDS = 39;

  private final Text text;
  private final StreetReader streetReader;
  private final RuleReader ruleReader;
  private final int[][] rules;
  private int ruleCount;
  private final Scene scene;
  private final Scene[] images;
  private final Past past;
  private final Judge judge;
  private final Hands hands;
  private final Years years;
  private final Story story;

  public TannerBunting() {
    text = new Text();
    streetReader = new StreetReader(text);
    ruleReader = new RuleReader(text);
    rules = new int[MOST_RULES][];
    ruleCount = 0;
    scene = new Scene();
    images = new Scene[IMAGES];
    past = new Past();
    judge = new Judge();
    hands = new Hands();
    years = new Years(judge);
    story = new Story(judge);
  }

  public int feed(int a, int b, int c, int d, int e) {
    if (text.length + FED_BYTES > MOST_BYTES) {
      return NONE;
    }
    text.addFour(a);
    text.addFour(b);
    text.addFour(c);
    text.addFour(d);
    text.addFour(e);
    return text.length;
  }

  public int end(int n) {
    if (n < 0 || n > text.length) {
      return NONE;
    }
    text.length = n;
    return n;
  }

  public int street() {
    int fault = streetReader.read();
    // The tape is empty behind a fault, too; all else stays then.
    text.length = 0;
    if (fault != 0) {
      return -2 - fault;
    }
    scene.beginWith(streetReader.fresh);
    past.clear();
    return scene.now.lines;
  }

  public int rule() {
    if (ruleCount < 0 || ruleCount >= rules.length) {
      return NONE;
    }
    int fault = ruleReader.read();
    // The tape is empty behind a fault, too.
    text.length = 0;
    if (fault != 0) {
      return -2 - fault;
    }
    rules[ruleCount] = ruleReader.copyOfCode();
    ruleCount++;
    return ruleCount - 1;
  }

  public int force(int rule) {
    if (rule < NONE || rule >= ruleCount) {
      return -2;
    }
    int was = scene.force;
    scene.force = rule;
    return was;
  }

  public int house(int house, int what) {
    Street now = scene.now;
    if (!now.isHouse(house)) {
      return NONE;
    }
    switch (what) {
      case 0: return now.leanOf(house);
      case 1: return now.footOf(house);
      case 2: return now.stands(house) ? 1 : 0;
      case 3: return now.linesAt(house);
      default: return NONE;
    }
  }

  public int line(int line, int what) {
    Street now = scene.now;
    if (!now.isLine(line)) {
      return NONE;
    }
    switch (what) {
      case 0: return now.oddOf(line);
      case 1: return now.evenOf(line);
      case 2: return now.isUp(line) ? now.pullOf(line) : 0;
      case 3: return now.isUp(line) ? 1 : 0;
      default: return NONE;
    }
  }

  public int year() {
    if (scene.isEmpty() || scene.now.year >= LAST_YEAR) {
      return NONE;
    }
    past.keep(scene.now);
    return judge.passYear(scene.now, ruleInForce());
  }

  public int tighten(int line, int much) {
    if (!scene.now.isUp(line) || !within(much, 1, MOST_AT_ONCE)) {
      return NONE;
    }
    past.keep(scene.now);
    scene.now.setPull(line, Math.min(MOST_BY_HAND, scene.now.pullOf(line) + much));
    return scene.now.pullOf(line);
  }

  public int cut(int line) {
    if (!scene.now.isUp(line)) {
      return NONE;
    }
    past.keep(scene.now);
    scene.now.up &= ~(1 << line);
    return scene.now.giveWay();
  }

  public int hang(int odd, int even, int pull) {
    Street now = scene.now;
    int line = now.leastNotUp();
    if (!now.canJoin(odd, even) || !within(pull, 1, MOST_TOLD_PULL) || line == NONE) {
      return NONE;
    }
    past.keep(now);
    now.putUp(line, odd, even, pull);
    return line;
  }

  public int prop(int house, int much) {
    if (!scene.now.stands(house) || !within(much, 1, MOST_AT_ONCE)) {
      return NONE;
    }
    past.keep(scene.now);
    scene.now.setFoot(house, Math.min(MOST_BY_HAND, scene.now.footOf(house) + much));
    return scene.now.footOf(house);
  }

  public int undo() {
    if (past.size == 0) {
      return NONE;
    }
    past.giveBack(scene.now);
    return past.size;
  }

  public int ahead(int n, int what) {
    if (scene.isEmpty() || !within(n, 0, YEARS_AHEAD) || !within(what, 0, 2)) {
      return NONE;
    }
    years.begin(scene.now);
    years.goOn(ruleInForce(), n);
    switch (what) {
      case 0: return years.trial.standing;
      case 1: return years.trial.up;
      default: return years.trial.allPull();
    }
  }

  public int falls(int what) {
    if (scene.isEmpty() || !within(what, 0, 1)) {
      return NONE;
    }
    int when = years.firstFall(scene.now, ruleInForce(), scene.now.standing);
    if (when == NONE) {
      return -2;
    }
    return what == 0 ? when : leastOf(years.fallen);
  }

  public int lasts(int house) {
    if (!scene.now.stands(house)) {
      return NONE;
    }
    int when = years.firstFall(scene.now, ruleInForce(), 1 << house);
    return when == NONE ? -2 : when;
  }

  public int spare(int house) {
    Street now = scene.now;
    return now.stands(house) ? now.holdOf(house) - now.leanOf(house) : NO_SPARE;
  }

  public int needed() {
    return scene.isEmpty() ? NONE : hands.linesNeeded(scene.now);
  }

  public int fewest(int house, int what) {
    if (!scene.now.stands(house) || !within(what, 0, 1)) {
      return NONE;
    }
    return ofSet(hands.fewestCut(scene.now, 1 << house), what);
  }

  public int down(int what) {
    if (scene.isEmpty() || !within(what, 0, 1)) {
      return NONE;
    }
    return ofSet(hands.fewestCut(scene.now, scene.now.standing), what);
  }

  public int byThese(int what) {
    if (scene.isEmpty() || !within(what, 0, 1)) {
      return NONE;
    }
    return ofSet(hands.fewestKept(scene.now), what);
  }

  public int way(int house, int other) {
    if (!scene.now.isHouse(house) || !scene.now.isHouse(other)) {
      return NONE;
    }
    int steps = hands.stepsBetween(scene.now, house, other);
    return steps == NONE ? -2 : steps;
  }

  public int blocks(int house) {
    if (house == NONE) {
      return scene.isEmpty() ? -2 : hands.blockCount(scene.now);
    }
    return scene.now.stands(house) ? hands.blockOf(scene.now, house) : -2;
  }

  public int propped(int house, int n) {
    if (!scene.now.stands(house) || !within(n, 1, YEARS_PROPPED)) {
      return NONE;
    }
    int much = years.leastProp(scene.now, ruleInForce(), house, n);
    return much == NONE ? -2 : much;
  }

  public int marry(int what) {
    if (scene.isEmpty() || !within(what, NONE, MOST_LONG - 1)) {
      return -3;
    }
    if (what >= scene.now.size) {
      return -2;
    }
    int pairs = hands.marryAll(scene.now);
    return what == NONE ? pairs : hands.partnerOf(what);
  }

  public int newLine(int pull, int n, int what) {
    boolean asked = within(pull, 1, MOST_TOLD_PULL) && within(n, 1, YEARS_PROPPED) && within(what, 0, 2);
    if (scene.isEmpty() || !asked) {
      return -2;
    }
    years.findNewLine(scene.now, ruleInForce(), pull, n);
    switch (what) {
      case 0: return years.most;
      case 1: return years.first;
      default: return years.second;
    }
  }

  public int pulled(int line, int what) {
    if (!scene.told.isLine(line) || !within(what, 0, 1)) {
      return NONE;
    }
    story.findPulls(scene, ruleInForce(), line);
    return what == 0 ? story.fitting : story.firstFitting;
  }

  public int rests(int one, int other, int n, int what) {
    boolean two = one != other && scene.now.stands(one) && scene.now.stands(other);
    if (!two || !within(n, 1, YEARS_RESTED) || !within(what, 0, 2)) {
      return NONE;
    }
    years.findRests(scene.now, ruleInForce(), one, other, n);
    switch (what) {
      case 0: return years.most;
      case 1: return years.first;
      default: return years.second;
    }
  }

  public int pence(int much, int house) {
    if (!within(much, 0, MOST_PENCE) || !scene.now.isHouse(house)) {
      return NONE;
    }
    return penceOf(scene.now, much, house);
  }

  public int note(int n, int house, int stood) {
    if (n == NONE) {
      scene.notes.size = 0;
      return 0;
    }
    boolean asked = within(n, 0, YEARS_NOTED) && scene.now.isHouse(house) && within(stood, 0, 1);
    if (!asked || scene.notes.size >= MOST_NOTES) {
      return -2;
    }
    scene.notes.add(n, house, stood);
    return scene.notes.size;
  }

  public int ruled(int what) {
    if (scene.isEmpty() || !within(what, 0, 1)) {
      return -3;
    }
    story.findRules(scene, rules, ruleCount, NONE);
    return what == 0 ? story.fitting : story.firstFitting;
  }

  public int look(int n, int what) {
    if (scene.isEmpty() || !within(n, 0, YEARS_NOTED) || !within(what, 0, 1)) {
      return NONE;
    }
    story.findRules(scene, rules, ruleCount, n);
    if (story.fitting == 0) {
      return -2;
    }
    int best = story.bestParting(scene.told.houses());
    return what == 0 ? best : story.mostAlike(best);
  }

  public int seed(int x) {
    if (x < 0) {
      return NONE;
    }
    int was = scene.x;
    scene.x = x;
    return was;
  }

  public int winters(int m, int n, int p, int what) {
    boolean asked = within(m, 1, MOST_WINTERS) && within(n, 1, YEARS_SNOWED) && within(p, 0, 100);
    if (scene.isEmpty() || !asked || !within(what, 0, 1)) {
      return NONE;
    }
    years.snow(scene, ruleInForce(), m, n, p);
    return what == 0 ? years.first : years.second;
  }

  public int count(int what) {
    Street now = scene.now;
    switch (what) {
      case 0: return now.size;
      case 1: return now.fades;
      case 2: return now.lines;
      case 3: return ruleCount;
      case 4: return scene.force;
      case 5: return now.year;
      case 6: return now.standing;
      case 7: return now.up;
      case 8: return now.allPull();
      case 9: return now.allLean();
      case 10: return scene.notes.size;
      case 11: return past.size;
      case 12: return scene.x;
      case 13: return text.length;
      default: return NONE;
    }
  }

  public int image(int k) {
    if (k < 0 || k >= images.length) {
      return NONE;
    }
    Scene kept = images[k];
    if (kept == null) {
      kept = new Scene();
      images[k] = kept;
    }
    kept.copyFrom(scene);
    return scene.now.year;
  }

  public int back(int k) {
    if (k < 0 || k >= images.length) {
      return NONE;
    }
    Scene kept = images[k];
    if (kept == null) {
      return NONE;
    }
    scene.copyFrom(kept);
    past.clear();
    return scene.now.year;
  }

  private static boolean within(int number, int least, int most) {
    return number >= least && number <= most;
  }

  private static int ofSet(int set, int what) {
    if (set == NONE) {
      return -2;
    }
    return what == 0 ? Integer.bitCount(set) : set;
  }

  private static int leastOf(int bits) {
    for (int at = 0; at < MOST_HOUSES; at++) {
      if ((bits >> at & 1) == 1) {
        return at;
      }
    }
    return NONE;
  }

  private int[] ruleInForce() {
    return codeOf(rules, scene.force);
  }

  /** The code of a rule; null stands for none. */
  private static int[] codeOf(int[][] rules, int rule) {
    return rule >= 0 && rule < rules.length ? rules[rule] : null;
  }

  private static int penceOf(Street now, int much, int house) {
    int all = now.allLean();
    if (all <= 0 || !now.stands(house)) {
      return 0;
    }
    int mine = much * now.leanOf(house);
    int left = much;
    int ahead = 0;
    for (int other = 0; other < now.houses(); other++) {
      if (now.stands(other)) {
        int its = much * now.leanOf(other);
        left -= its / all;
        boolean lostMore = its % all > mine % all;
        if (lostMore || (its % all == mine % all && other < house)) {
          ahead++;
        }
      }
    }
    return mine / all + (ahead < left ? 1 : 0);
  }

  /** The tape; split into tokens it is read from one to the next, up to its first fault. */
  private static final class Text {
    int length;
    int kind;
    int number;
    int fault;
    private final int[] bytes;
    private final int[] kinds;
    private final int[] places;
    private final int[] numbers;
    private int tokens;
    private int at;

    Text() {
      bytes = new int[MOST_BYTES];
      // One more than bytes: the end is a token, too.
      kinds = new int[MOST_BYTES + 1];
      places = new int[MOST_BYTES + 1];
      numbers = new int[MOST_BYTES + 1];
    }

    void addFour(int four) {
      for (int shift = 24; shift >= 0; shift -= 8) {
        if (length >= 0 && length < bytes.length) {
          bytes[length] = (four >>> shift) & 255;
          length++;
        }
      }
    }

    /** Splits the tape, and stands at its first token. */
    void begin() {
      tokens = 0;
      int next = 0;
      // Each step goes on by one byte at least.
      for (int step = 0; step < MOST_BYTES && next < length; step++) {
        int first = byteAt(next);
        if (first == ' ') {
          next++;
        } else if (isDigit(first)) {
          next = splitNumber(next);
        } else if (isLetter(first)) {
          next = splitWord(next);
        } else {
          next = splitSign(next);
        }
      }
      addToken(END, length, 0);
      fault = 0;
      at = NONE;
      advance();
    }

    void advance() {
      at++;
      boolean there = at >= 0 && at < tokens && at < kinds.length;
      kind = there ? kinds[at] : END;
      number = there ? numbers[at] : 0;
    }

    /** Behind its first fault nothing more is read, so all that reads comes to its end. */
    void fail(int why) {
      if (fault == 0 && at >= 0 && at < places.length) {
        fault = 1 + 8 * places[at] + why;
      }
      at = tokens;
      kind = END;
    }

    private void addToken(int tokenKind, int place, int value) {
      if (tokens >= 0 && tokens < kinds.length) {
        kinds[tokens] = tokenKind;
        places[tokens] = place;
        numbers[tokens] = value;
        tokens++;
      }
    }

    private int splitNumber(int from) {
      int value = 0;
      int next = from;
      while (next < length && isDigit(byteAt(next))) {
        if (next - from < MOST_DIGITS) {
          value = value * 10 + byteAt(next) - '0';
        }
        next++;
      }
      addToken(next - from > MOST_DIGITS ? LONG_NUMBER : NUMBER, from, value);
      return next;
    }

    private int splitWord(int from) {
      int next = from;
      while (next < length && isLetter(byteAt(next))) {
        next++;
      }
      int found = STRAY;
      for (int word = FIRST_WORD; word < PAST_WORDS; word++) {
        if (isSpelt(spellingOf(word), from, next)) {
          found = word;
        }
      }
      addToken(found, from, 0);
      return next;
    }

    private boolean isSpelt(String word, int from, int to) {
      if (word.length() != to - from) {
        return false;
      }
      for (int i = 0; i < word.length(); i++) {
        if (word.charAt(i) != byteAt(from + i)) {
          return false;
        }
      }
      return true;
    }

    private int splitSign(int from) {
      int sign = signOf(byteAt(from));
      if (byteAt(from + 1) == '=' && (sign == LESS || sign == MORE)) {
        addToken(sign == LESS ? LESS_OR_SAME : MORE_OR_SAME, from, 0);
        return from + 2;
      }
      addToken(sign, from, 0);
      return from + 1;
    }

    private int byteAt(int place) {
      return place >= 0 && place < length && place < bytes.length ? bytes[place] : NONE;
    }

    private static boolean isDigit(int sign) {
      return sign >= '0' && sign <= '9';
    }

    private static boolean isLetter(int sign) {
      return sign >= 'a' && sign <= 'z';
    }

    private static int signOf(int sign) {
      switch (sign) {
        case ';': return SEMICOLON;
        case '[': return OPEN;
        case ']': return CLOSE;
        case '+': return PLUS;
        case '-': return MINUS;
        case '*': return TIMES;
        case '/': return OVER;
        case '%': return REST;
        case '<': return LESS;
        case '=': return SAME;
        case '>': return MORE;
        default: return STRAY;
      }
    }

    private static String spellingOf(int word) {
      switch (word) {
        case LINE: return "line";
        case ODD: return "odd";
        case EVEN: return "even";
        case PULL: return "pull";
        case LEAN_ODD: return "leanodd";
        case LEAN_EVEN: return "leaneven";
        case FOOT_ODD: return "footodd";
        case FOOT_EVEN: return "footeven";
        case UP: return "up";
        case STANDING: return "standing";
        case FADES: return "fades";
        case YEAR: return "year";
        case STREET: return "street";
        case HOUSE: return "house";
        case KEEP: return "keep";
        case IF: return "if";
        case OR: return "or";
        case AND: return "and";
        case NOT: return "not";
        default: return "";
      }
    }
  }

  /** Reads the tape as a street; what it read without a fault is fresh. */
  private static final class StreetReader {
    final Street fresh;
    private final Text text;

    StreetReader(Text text) {
      this.text = text;
      fresh = new Street();
    }

    /** Its fault, 0 without one. */
    int read() {
      fresh.clear();
      text.begin();
      for (int clause = 0; clause <= STREET_CLAUSES; clause++) {
        readClause(clause);
        if (text.kind != SEMICOLON) {
          break;
        }
        text.advance();
      }
      if (text.kind != END) {
        text.fail(CANT_STAND);
      }
      fresh.raise();
      return text.fault;
    }

    private void readClause(int clause) {
      int word = text.kind;
      if (word != STREET && word != HOUSE && word != LINE) {
        text.fail(CANT_STAND);
        return;
      }
      boolean placed = (word == STREET) == (clause == 0);
      boolean ninth = word == LINE && fresh.lines >= MOST_LINES;
      if (!placed || ninth || clause >= STREET_CLAUSES) {
        text.fail(BAD_CLAUSE);
        return;
      }
      text.advance();
      if (word == STREET) {
        fresh.size = readNumber(1, MOST_LONG);
        fresh.fades = readNumber(0, MOST_FADES);
      } else if (word == HOUSE) {
        readHouse();
      } else {
        readLine();
      }
    }

    private void readHouse() {
      int at = readNumber(0, fresh.houses() - 1);
      int lean = readNumber(0, MOST_LEAN);
      int foot = readNumber(0, MOST_TOLD_FOOT);
      if (text.fault == 0) {
        fresh.setLean(at, lean);
        fresh.setFoot(at, foot);
      }
    }

    private void readLine() {
      int odd = readNumber(0, fresh.size - 1);
      int even = readNumber(fresh.size, fresh.houses() - 1);
      int pull = readNumber(1, MOST_TOLD_PULL);
      if (text.fault == 0) {
        fresh.putUp(fresh.lines, odd, even, pull);
      }
    }

    private int readNumber(int least, int most) {
      int number = text.number;
      if (text.kind == NUMBER && within(number, least, most)) {
        text.advance();
        return number;
      }
      text.fail(text.kind == NUMBER || text.kind == LONG_NUMBER ? BAD_NUMBER : CANT_STAND);
      return 0;
    }
  }

  /**
   * Reads the tape as a rule, into code whose values come ahead of what joins
   * them: numbers as they are, words and signs as their tokens, below 0.
   */
  private static final class RuleReader {
    private final Text text;
    private final int[] code;
    private int length;
    private int parts;

    RuleReader(Text text) {
      this.text = text;
      // Each step of the code comes from a byte of its own.
      code = new int[MOST_BYTES];
    }

    int[] copyOfCode() {
      return Arrays.copyOf(code, Math.max(0, Math.min(length, code.length)));
    }

    /** Its fault, 0 without one. */
    int read() {
      length = 0;
      parts = 0;
      text.begin();
      for (int clause = 0; clause <= RULE_CLAUSES; clause++) {
        if (text.kind != KEEP || clause >= RULE_CLAUSES) {
          text.fail(text.kind != KEEP ? CANT_STAND : BAD_CLAUSE);
          break;
        }
        text.advance();
        readSum();
        if (text.kind == IF) {
          text.advance();
          readTest(0);
          emit(-IF);
        } else {
          emit(-KEEP);
        }
        if (text.kind != SEMICOLON) {
          break;
        }
        text.advance();
      }
      if (text.kind != END) {
        text.fail(CANT_STAND);
      }
      return text.fault;
    }

    private void readTest(int depth) {
      for (int done = 0; done < MOST_BYTES; done++) {
        readFact(depth);
        for (int more = 0; more < MOST_BYTES && text.kind == AND; more++) {
          text.advance();
          readFact(depth);
          emit(-AND);
        }
        if (done > 0) {
          emit(-OR);
        }
        if (text.kind != OR) {
          return;
        }
        text.advance();
      }
    }

    private void readFact(int depth) {
      int opened = text.kind;
      if ((opened == NOT || opened == OPEN) && depth >= MOST_DEEP) {
        text.fail(TOO_DEEP);
      } else if (opened == NOT) {
        text.advance();
        readFact(depth + 1);
        emit(-NOT);
      } else if (opened == OPEN) {
        text.advance();
        readTest(depth + 1);
        if (text.kind == CLOSE) {
          text.advance();
        } else {
          text.fail(CANT_STAND);
        }
      } else {
        readSum();
        int sign = text.kind;
        if (within(sign, LESS, MORE)) {
          takePart();
          readSum();
          emit(-sign);
        } else {
          text.fail(CANT_STAND);
        }
      }
    }

    private void readSum() {
      int adding = 0;
      for (int done = 0; done < MOST_BYTES; done++) {
        readValue();
        for (int more = 0; more < MOST_BYTES && within(text.kind, TIMES, REST); more++) {
          int joining = text.kind;
          text.advance();
          readValue();
          emit(-joining);
        }
        if (done > 0) {
          emit(-adding);
        }
        adding = text.kind;
        if (adding != PLUS && adding != MINUS) {
          return;
        }
        text.advance();
      }
    }

    private void readValue() {
      int kind = text.kind;
      if (kind != NUMBER && !within(kind, LINE, YEAR)) {
        text.fail(kind == LONG_NUMBER ? BAD_NUMBER : CANT_STAND);
        return;
      }
      emit(kind == NUMBER ? text.number : -kind);
      takePart();
    }

    /** A value, or the sign of a fact, is counted where it stands. */
    private void takePart() {
      if (parts >= MOST_PARTS) {
        text.fail(PART_TOO_MANY);
        return;
      }
      parts++;
      text.advance();
    }

    private void emit(int step) {
      if (text.fault == 0 && length >= 0 && length < code.length) {
        code[length] = step;
        length++;
      }
    }
  }

  /** Works out rules, and lets years go by. */
  private static final class Judge {
    private static final int MOST_HEAPED = 64;
    private final long[] heap;
    private int top;

    Judge() {
      heap = new long[MOST_HEAPED];
    }

    /** The houses that fall in it, as bits. */
    int passYear(Street street, int[] rule) {
      if (rule != null) {
        int kept = street.up;
        for (int line = 0; line < street.lines; line++) {
          if (street.isUp(line) && worth(rule, street, line) <= 0) {
            kept &= ~(1 << line);
          }
        }
        street.up = kept;
      }
      street.fade();
      street.year++;
      return street.giveWay();
    }

    private long worth(int[] rule, Street street, int line) {
      top = 0;
      for (int i = 0; i < rule.length; i++) {
        int step = rule[i];
        if (step >= 0) {
          push(step);
        } else if (step >= -YEAR && step <= -LINE) {
          push(wordOf(-step, street, line));
        } else if (step == -KEEP) {
          return pop();
        } else if (step == -IF) {
          boolean holds = pop() != 0;
          long sum = pop();
          if (holds) {
            return sum;
          }
        } else if (step == -NOT) {
          push(pop() == 0 ? 1 : 0);
        } else {
          long right = pop();
          long left = pop();
          push(within(-step, PLUS, REST) ? reckon(-step, left, right) : truth(-step, left, right));
        }
      }
      return 0;
    }

    private void push(long value) {
      if (top >= 0 && top < heap.length) {
        heap[top] = value;
        top++;
      }
    }

    private long pop() {
      if (top <= 0 || top > heap.length) {
        return 0;
      }
      top--;
      return heap[top];
    }

    private static int wordOf(int word, Street street, int line) {
      switch (word) {
        case LINE: return line;
        case ODD: return street.oddOf(line);
        case EVEN: return street.evenOf(line);
        case PULL: return street.pullOf(line);
        case LEAN_ODD: return street.leanOf(street.oddOf(line));
        case LEAN_EVEN: return street.leanOf(street.evenOf(line));
        case FOOT_ODD: return street.footOf(street.oddOf(line));
        case FOOT_EVEN: return street.footOf(street.evenOf(line));
        case UP: return Integer.bitCount(street.up);
        case STANDING: return Integer.bitCount(street.standing);
        case FADES: return street.fades;
        case YEAR: return street.year;
        default: return 0;
      }
    }

    private static long reckon(int sign, long left, long right) {
      switch (sign) {
        case PLUS: return left + right;
        case MINUS: return left - right;
        case TIMES: return left * right;
        case OVER: return right == 0 ? 0 : left / right;
        case REST: return right == 0 ? 0 : left % right;
        default: return 0;
      }
    }

    private static long truth(int sign, long left, long right) {
      boolean holds;
      switch (sign) {
        case LESS: holds = left < right; break;
        case LESS_OR_SAME: holds = left <= right; break;
        case SAME: holds = left == right; break;
        case MORE_OR_SAME: holds = left >= right; break;
        case MORE: holds = left > right; break;
        case AND: holds = left != 0 && right != 0; break;
        case OR: holds = left != 0 || right != 0; break;
        default: holds = false; break;
      }
      return holds ? 1 : 0;
    }
  }

  /** Houses and lines as they are at one time; without a street its size is 0. */
  private static final class Street {
    int size;
    int fades;
    int year;
    int lines;
    int up;
    int standing;
    private final int[] lean;
    private final int[] foot;
    private final int[] odd;
    private final int[] even;
    private final int[] pull;
    private final int[] hold;

    Street() {
      lean = new int[MOST_HOUSES];
      foot = new int[MOST_HOUSES];
      odd = new int[MOST_LINES];
      even = new int[MOST_LINES];
      pull = new int[MOST_LINES];
      hold = new int[MOST_HOUSES];
    }

    void clear() {
      size = 0;
      fades = 0;
      year = 0;
      lines = 0;
      up = 0;
      standing = 0;
      Arrays.fill(lean, 0);
      Arrays.fill(foot, 0);
    }

    /** All houses stand at first, whatever holds them. */
    void raise() {
      standing = (1 << houses()) - 1;
    }

    void copyFrom(Street other) {
      size = other.size;
      fades = other.fades;
      year = other.year;
      lines = other.lines;
      up = other.up;
      standing = other.standing;
      System.arraycopy(other.lean, 0, lean, 0, MOST_HOUSES);
      System.arraycopy(other.foot, 0, foot, 0, MOST_HOUSES);
      System.arraycopy(other.odd, 0, odd, 0, MOST_LINES);
      System.arraycopy(other.even, 0, even, 0, MOST_LINES);
      System.arraycopy(other.pull, 0, pull, 0, MOST_LINES);
    }

    int houses() {
      return 2 * size;
    }

    boolean isHouse(int at) {
      return at >= 0 && at < 2 * size && at < MOST_HOUSES;
    }

    boolean stands(int at) {
      return isHouse(at) && (standing >> at & 1) == 1;
    }

    boolean isLine(int at) {
      return at >= 0 && at < lines && at < MOST_LINES;
    }

    boolean isUp(int at) {
      return at >= 0 && at < lines && at < MOST_LINES && (up >> at & 1) == 1;
    }

    boolean canJoin(int oddHouse, int evenHouse) {
      return oddHouse < size && evenHouse >= size && stands(oddHouse) && stands(evenHouse);
    }

    int leanOf(int at) {
      return isHouse(at) ? lean[at] : 0;
    }

    void setLean(int at, int much) {
      if (isHouse(at)) {
        lean[at] = much;
      }
    }

    int footOf(int at) {
      return isHouse(at) ? foot[at] : 0;
    }

    void setFoot(int at, int much) {
      if (isHouse(at)) {
        foot[at] = much;
      }
    }

    int oddOf(int at) {
      return isLine(at) ? odd[at] : NONE;
    }

    int evenOf(int at) {
      return isLine(at) ? even[at] : NONE;
    }

    int pullOf(int at) {
      return isLine(at) ? pull[at] : 0;
    }

    void setPull(int at, int much) {
      if (isLine(at)) {
        pull[at] = much;
      }
    }

    /** NONE, if as many are up as there can be. */
    int leastNotUp() {
      for (int at = 0; at < MOST_LINES; at++) {
        if ((up >> at & 1) == 0) {
          return at;
        }
      }
      return NONE;
    }

    /** The line is one that there is, or the next one. */
    void putUp(int at, int oddHouse, int evenHouse, int much) {
      if (at < 0 || at > lines || at >= MOST_LINES) {
        return;
      }
      odd[at] = oddHouse;
      even[at] = evenHouse;
      pull[at] = much;
      up |= 1 << at;
      lines = Math.max(lines, at + 1);
    }

    /** Lines that are up at any of these houses, as bits. */
    int linesAtAny(int houseBits) {
      int found = 0;
      for (int at = 0; at < lines; at++) {
        if (isUp(at) && (endsOf(at) & houseBits) != 0) {
          found |= 1 << at;
        }
      }
      return found;
    }

    int linesAt(int house) {
      return isHouse(house) ? linesAtAny(1 << house) : 0;
    }

    /** The two houses of a line, as bits. */
    int endsOf(int at) {
      return isLine(at) ? 1 << odd[at] | 1 << even[at] : 0;
    }

    int holdOf(int house) {
      weighAll();
      return isHouse(house) ? hold[house] : 0;
    }

    private void weighAll() {
      System.arraycopy(foot, 0, hold, 0, MOST_HOUSES);
      for (int at = 0; at < lines; at++) {
        if (isUp(at) && isHouse(odd[at]) && isHouse(even[at])) {
          hold[odd[at]] += pull[at];
          hold[even[at]] += pull[at];
        }
      }
    }

    /** Houses that stand and are not held, as bits. */
    private int weak() {
      weighAll();
      int found = 0;
      for (int at = 0; at < houses(); at++) {
        if (stands(at) && lean[at] > hold[at]) {
          found |= 1 << at;
        }
      }
      return found;
    }

    /** The houses that fall by it, as bits. */
    int giveWay() {
      int before = standing;
      // Each round but the last fells a house.
      for (int round = 0; round <= MOST_HOUSES; round++) {
        int falling = weak();
        if (falling == 0) {
          break;
        }
        standing &= ~falling;
        up &= ~linesAtAny(falling);
      }
      return before & ~standing;
    }

    void fade() {
      for (int at = 0; at < lines; at++) {
        if (isUp(at)) {
          pull[at] -= fades;
          if (pull[at] <= 0) {
            up &= ~(1 << at);
          }
        }
      }
    }

    int allPull() {
      int sum = 0;
      for (int at = 0; at < lines; at++) {
        if (isUp(at)) {
          sum += pull[at];
        }
      }
      return sum;
    }

    int allLean() {
      int sum = 0;
      for (int at = 0; at < houses(); at++) {
        if (stands(at)) {
          sum += lean[at];
        }
      }
      return sum;
    }
  }

  /** What was told of houses behind years. */
  private static final class Notes {
    int size;
    private final int[] when;
    private final int[] which;
    private final int[] stood;

    Notes() {
      when = new int[MOST_NOTES];
      which = new int[MOST_NOTES];
      stood = new int[MOST_NOTES];
    }

    void copyFrom(Notes other) {
      size = other.size;
      System.arraycopy(other.when, 0, when, 0, MOST_NOTES);
      System.arraycopy(other.which, 0, which, 0, MOST_NOTES);
      System.arraycopy(other.stood, 0, stood, 0, MOST_NOTES);
    }

    void add(int n, int house, int stands) {
      if (size >= 0 && size < MOST_NOTES) {
        when[size] = n;
        which[size] = house;
        stood[size] = stands;
        size++;
      }
    }

    /** NONE, if nothing was told. */
    int lastYear() {
      int last = NONE;
      for (int i = 0; i < size && i < MOST_NOTES; i++) {
        last = Math.max(last, when[i]);
      }
      return last;
    }

    /** Whether all that was told of the street behind that year is so. */
    boolean fit(Street street, int n) {
      for (int i = 0; i < size && i < MOST_NOTES; i++) {
        if (when[i] == n && street.stands(which[i]) != (stood[i] == 1)) {
          return false;
        }
      }
      return true;
    }
  }

  /** All that an image keeps. */
  private static final class Scene {
    final Street now;
    final Street told;
    final Notes notes;
    int force;
    int x;

    Scene() {
      now = new Street();
      told = new Street();
      notes = new Notes();
      force = NONE;
    }

    boolean isEmpty() {
      return now.size == 0;
    }

    void beginWith(Street fresh) {
      now.copyFrom(fresh);
      told.copyFrom(fresh);
      notes.size = 0;
    }

    void copyFrom(Scene other) {
      now.copyFrom(other.now);
      told.copyFrom(other.told);
      notes.copyFrom(other.notes);
      force = other.force;
      x = other.x;
    }
  }

  /** The street ahead of each act that can be undone, in a ring. */
  private static final class Past {
    int size;
    private int next;
    private final Street[] kept;

    Past() {
      kept = new Street[MOST_UNDONE];
    }

    void clear() {
      size = 0;
      next = 0;
    }

    void keep(Street now) {
      if (next < 0 || next >= kept.length) {
        return;
      }
      if (kept[next] == null) {
        kept[next] = new Street();
      }
      kept[next].copyFrom(now);
      next = (next + 1) % MOST_UNDONE;
      size = Math.min(MOST_UNDONE, size + 1);
    }

    void giveBack(Street now) {
      next = (next + MOST_UNDONE - 1) % MOST_UNDONE;
      size = Math.max(0, size - 1);
      if (next >= 0 && next < kept.length && kept[next] != null) {
        now.copyFrom(kept[next]);
      }
    }
  }

  /** What is asked of lines as they are: sets of them, ways along them, pairs. */
  private static final class Hands {
    private final Street trial;
    // For each odd house, and each set of even ones that are free, the most
    // pairs that it and those behind it can make.
    private final int[] pairs;
    private final int[] partners;

    Hands() {
      trial = new Street();
      pairs = new int[(MOST_LONG + 1) * EVEN_SETS];
      partners = new int[MOST_LONG];
    }

    /** Giving way changes no more than what stands and what is up. */
    private int fallenWith(Street now, int up) {
      trial.up = up;
      trial.standing = now.standing;
      return trial.giveWay();
    }

    int linesNeeded(Street now) {
      trial.copyFrom(now);
      int found = 0;
      for (int line = 0; line < now.lines; line++) {
        if (now.isUp(line) && fallenWith(now, now.up & ~(1 << line)) != 0) {
          found |= 1 << line;
        }
      }
      return found;
    }

    /** The least of the fewest sets by whose cutting all of these houses fall. */
    int fewestCut(Street now, int houseBits) {
      trial.copyFrom(now);
      int best = NONE;
      for (int set = 0; set < LINE_SETS; set++) {
        if (isBetter(now, set, best) && (fallenWith(now, now.up & ~set) & houseBits) == houseBits) {
          best = set;
        }
      }
      return best;
    }

    /** The least of the fewest sets by which no house falls. */
    int fewestKept(Street now) {
      trial.copyFrom(now);
      int best = NONE;
      for (int set = 0; set < LINE_SETS; set++) {
        if (isBetter(now, set, best) && fallenWith(now, set) == 0) {
          best = set;
        }
      }
      return best;
    }

    private static boolean isBetter(Street now, int set, int best) {
      return (set & ~now.up) == 0 && (best == NONE || Integer.bitCount(set) < Integer.bitCount(best));
    }

    int stepsBetween(Street now, int house, int other) {
      int reached = 1 << house;
      for (int steps = 0; steps < MOST_HOUSES; steps++) {
        if ((reached >> other & 1) == 1) {
          return steps;
        }
        reached = neighboursOf(now, reached);
      }
      return NONE;
    }

    /** These houses, and all to which a line leads from one of them. */
    private static int neighboursOf(Street now, int houseBits) {
      int found = houseBits;
      for (int line = 0; line < now.lines; line++) {
        if (now.isUp(line) && (now.endsOf(line) & houseBits) != 0) {
          found |= now.endsOf(line);
        }
      }
      return found;
    }

    int blockOf(Street now, int house) {
      int reached = 1 << house;
      for (int steps = 0; steps < MOST_HOUSES; steps++) {
        reached = neighboursOf(now, reached);
      }
      return reached;
    }

    int blockCount(Street now) {
      int left = now.standing;
      int found = 0;
      for (int house = 0; house < now.houses(); house++) {
        if ((left >> house & 1) == 1) {
          left &= ~blockOf(now, house);
          found++;
        }
      }
      return found;
    }

    /** How many pairs; partners has who is with whom. */
    int marryAll(Street now) {
      fillPairs(now);
      int free = EVEN_SETS - 1;
      for (int odd = 0; odd < now.size && odd < partners.length; odd++) {
        partners[odd] = NONE;
        int even = firstPartner(now, odd, free);
        if (even != NONE) {
          partners[odd] = now.size + even;
          free &= ~(1 << even);
        }
      }
      return pairsFrom(0, EVEN_SETS - 1);
    }

    int partnerOf(int odd) {
      return odd >= 0 && odd < partners.length ? partners[odd] : NONE;
    }

    private void fillPairs(Street now) {
      Arrays.fill(pairs, 0);
      for (int odd = now.size - 1; odd >= 0; odd--) {
        int joined = joinedTo(now, odd);
        for (int free = 0; free < EVEN_SETS; free++) {
          int most = pairsFrom(odd + 1, free);
          for (int even = 0; even < now.size; even++) {
            if ((joined & free & 1 << even) != 0) {
              most = Math.max(most, 1 + pairsFrom(odd + 1, free & ~(1 << even)));
            }
          }
          setPairs(odd, free, most);
        }
      }
    }

    private int firstPartner(Street now, int odd, int free) {
      int most = pairsFrom(odd, free);
      if (pairsFrom(odd + 1, free) == most) {
        return NONE;
      }
      int joined = joinedTo(now, odd);
      for (int even = 0; even < now.size; even++) {
        boolean can = (joined & free & 1 << even) != 0;
        if (can && 1 + pairsFrom(odd + 1, free & ~(1 << even)) == most) {
          return even;
        }
      }
      return NONE;
    }

    /** Even houses, the first as bit 0, to which a line leads. */
    private static int joinedTo(Street now, int odd) {
      return neighboursOf(now, 1 << odd) >> now.size;
    }

    private int pairsFrom(int odd, int free) {
      int at = odd * EVEN_SETS + free;
      return at >= 0 && at < pairs.length ? pairs[at] : 0;
    }

    private void setPairs(int odd, int free, int most) {
      int at = odd * EVEN_SETS + free;
      if (at >= 0 && at < pairs.length) {
        pairs[at] = most;
      }
    }
  }

  /** What is asked of years to come; they go by in a street on trial. */
  private static final class Years {
    final Street trial;
    int fallen;
    int most;
    int first;
    int second;
    private final Judge judge;
    private final int[] gains;
    private int x;

    Years(Judge judge) {
      this.judge = judge;
      trial = new Street();
      gains = new int[8];
    }

    void begin(Street now) {
      trial.copyFrom(now);
    }

    void goOn(int[] rule, int n) {
      for (int i = 0; i < n; i++) {
        judge.passYear(trial, rule);
        if (trial.up == 0) {
          // Without lines nothing can change any more.
          return;
        }
      }
    }

    /** The number of the first year in which any of these houses falls; fallen has all of that year. */
    int firstFall(Street now, int[] rule, int houseBits) {
      begin(now);
      for (int n = 0; n < YEARS_LOOKED; n++) {
        // A year bears the number that it begins with.
        int year = trial.year;
        fallen = judge.passYear(trial, rule);
        if ((fallen & houseBits) != 0) {
          return year;
        }
        if (trial.up == 0) {
          return NONE;
        }
      }
      return NONE;
    }

    int leastProp(Street now, int[] rule, int house, int n) {
      for (int much = 0; much <= MOST_BY_HAND; much++) {
        begin(now);
        trial.setFoot(house, now.footOf(house) + much);
        goOn(rule, n);
        if (trial.stands(house)) {
          return much;
        }
      }
      return NONE;
    }

    /** Most has how many stand then, first and second have the two houses. */
    void findNewLine(Street now, int[] rule, int pull, int n) {
      begin(now);
      goOn(rule, n);
      most = Integer.bitCount(trial.standing);
      first = NONE;
      second = NONE;
      int line = now.leastNotUp();
      if (line == NONE) {
        return;
      }
      for (int odd = 0; odd < now.size; odd++) {
        for (int even = now.size; even < now.houses(); even++) {
          if (now.canJoin(odd, even)) {
            begin(now);
            trial.putUp(line, odd, even, pull);
            goOn(rule, n);
            takeIfMore(Integer.bitCount(trial.standing), odd, even);
          }
        }
      }
    }

    private void takeIfMore(int standing, int odd, int even) {
      if (standing > most) {
        most = standing;
        first = odd;
        second = even;
      }
    }

    /** Most has how many rests there are, first and second have the ways of the first one, -2 without. */
    void findRests(Street now, int[] rule, int one, int other, int n) {
      for (int ways = 0; ways < 4; ways++) {
        begin(now);
        letGo(ways, one, other);
        setGain(ways, 0, 0);
        setGain(ways, 1, 0);
        for (int i = 0; i < n; i++) {
          judge.passYear(trial, rule);
          setGain(ways, 0, gainOf(ways, 0) + (trial.stands(one) ? 1 : 0));
          setGain(ways, 1, gainOf(ways, 1) + (trial.stands(other) ? 1 : 0));
        }
        setGain(ways, 0, gainOf(ways, 0) + Integer.bitCount(trial.linesAt(one)));
        setGain(ways, 1, gainOf(ways, 1) + Integer.bitCount(trial.linesAt(other)));
      }
      most = 0;
      first = -2;
      second = -2;
      for (int ways = 0; ways < 4; ways++) {
        // The other way of the one is bit 1, that of the other bit 0.
        if (gainOf(ways ^ 2, 0) <= gainOf(ways, 0) && gainOf(ways ^ 1, 1) <= gainOf(ways, 1)) {
          if (most == 0) {
            first = ways >> 1;
            second = ways & 1;
          }
          most++;
        }
      }
    }

    private void letGo(int ways, int one, int other) {
      if ((ways & 2) != 0) {
        trial.up &= ~trial.linesAt(one);
      }
      if ((ways & 1) != 0) {
        trial.up &= ~trial.linesAt(other);
      }
      trial.giveWay();
    }

    private int gainOf(int ways, int who) {
      int at = 2 * ways + who;
      return at >= 0 && at < gains.length ? gains[at] : 0;
    }

    private void setGain(int ways, int who, int gain) {
      int at = 2 * ways + who;
      if (at >= 0 && at < gains.length) {
        gains[at] = gain;
      }
    }

    /** First has how many houses stand at the ends, second how many lines are up then. */
    void snow(Scene scene, int[] rule, int m, int n, int p) {
      x = scene.x;
      first = 0;
      second = 0;
      for (int winter = 0; winter < m; winter++) {
        begin(scene.now);
        for (int i = 0; i < n; i++) {
          snowOnce(p);
          judge.passYear(trial, rule);
        }
        first += Integer.bitCount(trial.standing);
        second += Integer.bitCount(trial.up);
      }
    }

    private void snowOnce(int p) {
      if (draw() % 100 < p && trial.houses() > 0) {
        int house = draw() % trial.houses();
        trial.setLean(house, trial.leanOf(house) + 1);
      }
    }

    private int draw() {
      x = (int) ((x * 1103515245L + 12345L) % 2147483648L);
      return x / 65536;
    }
  }

  /** What is asked of the street from its begin on, by what notes tell. */
  private static final class Story {
    int fitting;
    int firstFitting;
    private final Judge judge;
    private final Street trial;
    private final int[] standIn;

    Story(Judge judge) {
      this.judge = judge;
      trial = new Street();
      standIn = new int[MOST_HOUSES];
    }

    /** Whether all notes are so, if the street on trial goes on by a rule. */
    private boolean fits(Notes notes, int[] rule) {
      int last = notes.lastYear();
      for (int n = 0; n <= last; n++) {
        judge.passYear(trial, rule);
        if (!notes.fit(trial, n)) {
          return false;
        }
      }
      return true;
    }

    private void forget() {
      fitting = 0;
      firstFitting = -2;
    }

    private void take(int found) {
      if (fitting == 0) {
        firstFitting = found;
      }
      fitting++;
    }

    void findPulls(Scene scene, int[] rule, int line) {
      forget();
      for (int pull = 1; pull <= MOST_TOLD_PULL; pull++) {
        trial.copyFrom(scene.told);
        trial.setPull(line, pull);
        if (fits(scene.notes, rule)) {
          take(pull);
        }
      }
    }

    /** Behind the n-th year, n not NONE, standIn has by how many of these rules a house stands. */
    void findRules(Scene scene, int[][] rules, int ruleCount, int n) {
      forget();
      Arrays.fill(standIn, 0);
      for (int rule = NONE; rule < ruleCount; rule++) {
        int[] code = codeOf(rules, rule);
        trial.copyFrom(scene.told);
        if (fits(scene.notes, code)) {
          take(rule);
          trial.copyFrom(scene.told);
          // The first year is 0, so behind the n-th one more has gone by.
          for (int i = 0; i <= n; i++) {
            judge.passYear(trial, code);
          }
          countStanding();
        }
      }
    }

    private void countStanding() {
      for (int house = 0; house < standIn.length; house++) {
        if (trial.stands(house)) {
          standIn[house]++;
        }
      }
    }

    int bestParting(int houses) {
      int best = 0;
      for (int house = 1; house < houses; house++) {
        if (mostAlike(house) < mostAlike(best)) {
          best = house;
        }
      }
      return best;
    }

    /** How many of these rules say the same of a house, at most. */
    int mostAlike(int house) {
      if (house < 0 || house >= standIn.length) {
        return fitting;
      }
      return Math.max(standIn[house], fitting - standIn[house]);
    }
  }
}

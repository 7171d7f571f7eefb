import java.util.ArrayList;
import java.util.Arrays;
import java.util.List;
import java.util.function.BiPredicate;
import java.util.function.Predicate;

/** The document once more, as plainly as can be and in another way, to hold the program against. */
final class PlainBunting {
  static final class Fault extends RuntimeException {
    private static final long serialVersionUID = 1L;
    final int number;

    Fault(int place, int kind) {
      super(null, null, false, false);
      number = 1 + 8 * place + kind;
    }
  }

  static final class Line {
    int odd;
    int even;
    int pull;
    boolean up = true;

    Line copy() {
      Line line = new Line();
      line.odd = odd;
      line.even = even;
      line.pull = pull;
      line.up = up;
      return line;
    }

    boolean at(int house) {
      return odd == house || even == house;
    }
  }

  static final class House {
    int lean;
    int foot;
    boolean stands = true;

    House copy() {
      House house = new House();
      house.lean = lean;
      house.foot = foot;
      house.stands = stands;
      return house;
    }
  }

  static final class Town {
    int size;
    int fades;
    int year;
    List<House> houses = new ArrayList<>();
    List<Line> lines = new ArrayList<>();

    Town copy() {
      Town town = new Town();
      town.size = size;
      town.fades = fades;
      town.year = year;
      houses.forEach(h -> town.houses.add(h.copy()));
      lines.forEach(l -> town.lines.add(l.copy()));
      return town;
    }

    int standing() {
      int bits = 0;
      for (int i = 0; i < houses.size(); i++) {
        bits |= houses.get(i).stands ? 1 << i : 0;
      }
      return bits;
    }

    int up() {
      int bits = 0;
      for (int i = 0; i < lines.size(); i++) {
        bits |= lines.get(i).up ? 1 << i : 0;
      }
      return bits;
    }

    int pullAt(int house) {
      return lines.stream().filter(l -> l.up && l.at(house)).mapToInt(l -> l.pull).sum();
    }

    int upAt(int house) {
      return (int) lines.stream().filter(l -> l.up && l.at(house)).count();
    }

    boolean stands(int house) {
      return house >= 0 && house < houses.size() && houses.get(house).stands;
    }

    boolean isUp(int line) {
      return line >= 0 && line < lines.size() && lines.get(line).up;
    }

    int giveWay() {
      int before = standing();
      while (true) {
        List<Integer> fall = new ArrayList<>();
        for (int i = 0; i < houses.size(); i++) {
          House house = houses.get(i);
          if (house.stands && house.lean > house.foot + pullAt(i)) {
            fall.add(i);
          }
        }
        if (fall.isEmpty()) {
          return before - standing();
        }
        for (int i : fall) {
          houses.get(i).stands = false;
          lines.stream().filter(l -> l.at(i)).forEach(l -> l.up = false);
        }
      }
    }

    int pass(Rule rule) {
      if (rule != null) {
        boolean[] go = new boolean[lines.size()];
        for (int i = 0; i < go.length; i++) {
          go[i] = lines.get(i).up && rule.worth(this, i) <= 0;
        }
        for (int i = 0; i < go.length; i++) {
          lines.get(i).up &= !go[i];
        }
      }
      for (Line line : lines) {
        if (line.up) {
          line.pull -= fades;
          line.up = line.pull > 0;
        }
      }
      int fallen = giveWay();
      year++;
      return fallen;
    }

    Town after(int n, Rule rule) {
      Town town = copy();
      for (int i = 0; i < n; i++) {
        town.pass(rule);
      }
      return town;
    }

    Town with(int upBits) {
      Town town = copy();
      for (int i = 0; i < lines.size(); i++) {
        town.lines.get(i).up &= (upBits >> i & 1) == 1;
      }
      town.giveWay();
      return town;
    }

    int hangable() {
      for (int i = 0; i < lines.size(); i++) {
        if (!lines.get(i).up) {
          return i;
        }
      }
      return lines.size() < 8 ? lines.size() : -1;
    }

    void hang(int at, int odd, int even, int pull) {
      Line line = new Line();
      line.odd = odd;
      line.even = even;
      line.pull = pull;
      if (at == lines.size()) {
        lines.add(line);
      } else {
        lines.set(at, line);
      }
    }
  }

  interface Sum {
    long of(Town town, int line);
  }

  interface Test {
    boolean of(Town town, int line);
  }

  static final class Rule {
    final List<Sum> sums = new ArrayList<>();
    final List<Test> tests = new ArrayList<>();

    long worth(Town town, int line) {
      for (int i = 0; i < sums.size(); i++) {
        if (tests.get(i).of(town, line)) {
          return sums.get(i).of(town, line);
        }
      }
      return 0;
    }
  }

  static final class Parser {
    final String s;
    int at = 0;
    int parts = 0;

    Parser(String s) {
      this.s = s;
    }

    void blanks() {
      while (at < s.length() && s.charAt(at) == ' ') {
        at++;
      }
    }

    String peekWord() {
      blanks();
      int to = at;
      while (to < s.length() && s.charAt(to) >= 'a' && s.charAt(to) <= 'z') {
        to++;
      }
      return s.substring(at, to);
    }

    boolean word(String w) {
      if (peekWord().equals(w)) {
        at += w.length();
        return true;
      }
      return false;
    }

    boolean sign(String w) {
      blanks();
      if (s.startsWith(w, at)) {
        at += w.length();
        return true;
      }
      return false;
    }

    boolean atEnd() {
      blanks();
      return at == s.length();
    }

    boolean digit() {
      blanks();
      return at < s.length() && Character.isDigit(s.charAt(at)) && s.charAt(at) < 128;
    }

    int number(int least, int most) {
      if (!digit()) {
        throw new Fault(at, 0);
      }
      int to = at;
      while (to < s.length() && s.charAt(to) >= '0' && s.charAt(to) <= '9') {
        to++;
      }
      if (to - at > 5) {
        throw new Fault(at, 1);
      }
      int value = Integer.parseInt(s.substring(at, to));
      if (value < least || value > most) {
        throw new Fault(at, 1);
      }
      at = to;
      return value;
    }

    Town town() {
      Town town = new Town();
      int clauses = 0;
      do {
        String w = peekWord();
        if (!w.equals("street") && !w.equals("house") && !w.equals("line")) {
          throw new Fault(at, 0);
        }
        if (clauses == 40 || (clauses == 0 && !w.equals("street")) || (clauses > 0 && w.equals("street"))
            || (w.equals("line") && town.lines.size() == 8)) {
          throw new Fault(at, 4);
        }
        at += w.length();
        clauses++;
        if (w.equals("street")) {
          town.size = number(1, 5);
          town.fades = number(0, 9);
          for (int i = 0; i < 2 * town.size; i++) {
            town.houses.add(new House());
          }
        } else if (w.equals("house")) {
          House house = town.houses.get(number(0, 2 * town.size - 1));
          house.lean = number(0, 60);
          house.foot = number(0, 30);
        } else {
          int odd = number(0, town.size - 1);
          int even = number(town.size, 2 * town.size - 1);
          town.hang(town.lines.size(), odd, even, number(1, 40));
        }
      } while (sign(";"));
      if (!atEnd()) {
        throw new Fault(at, 0);
      }
      return town;
    }

    Rule rule() {
      Rule rule = new Rule();
      do {
        if (!peekWord().equals("keep")) {
          throw new Fault(at, 0);
        }
        if (rule.sums.size() == 12) {
          throw new Fault(at, 4);
        }
        at += 4;
        rule.sums.add(sum());
        rule.tests.add(word("if") ? test(0) : (t, l) -> true);
      } while (sign(";"));
      if (!atEnd()) {
        throw new Fault(at, 0);
      }
      return rule;
    }

    Test test(int deep) {
      Test left = part(deep);
      while (word("or")) {
        Test a = left;
        Test b = part(deep);
        left = (t, l) -> a.of(t, l) || b.of(t, l);
      }
      return left;
    }

    Test part(int deep) {
      Test left = fact(deep);
      while (word("and")) {
        Test a = left;
        Test b = fact(deep);
        left = (t, l) -> a.of(t, l) && b.of(t, l);
      }
      return left;
    }

    Test fact(int deep) {
      blanks();
      int place = at;
      if (word("not")) {
        if (deep == 10) {
          throw new Fault(place, 2);
        }
        Test a = fact(deep + 1);
        return (t, l) -> !a.of(t, l);
      }
      if (sign("[")) {
        if (deep == 10) {
          throw new Fault(place, 2);
        }
        Test a = test(deep + 1);
        if (!sign("]")) {
          throw new Fault(at, 0);
        }
        return a;
      }
      Sum a = sum();
      blanks();
      int here = at;
      BiPredicate<Long, Long> how = sign("<=") ? (x, y) -> x <= y
          : sign("<") ? (x, y) -> x < y
          : sign(">=") ? (x, y) -> x >= y
          : sign(">") ? (x, y) -> x > y
          : sign("=") ? (x, y) -> x.longValue() == y.longValue()
          : null;
      if (how == null) {
        throw new Fault(here, 0);
      }
      if (++parts > 60) {
        throw new Fault(here, 3);
      }
      Sum b = sum();
      return (t, l) -> how.test(a.of(t, l), b.of(t, l));
    }

    Sum sum() {
      Sum left = term();
      while (true) {
        Sum a = left;
        if (sign("+")) {
          Sum b = term();
          left = (t, l) -> a.of(t, l) + b.of(t, l);
        } else if (sign("-")) {
          Sum b = term();
          left = (t, l) -> a.of(t, l) - b.of(t, l);
        } else {
          return left;
        }
      }
    }

    Sum term() {
      Sum left = value();
      while (true) {
        Sum a = left;
        if (sign("*")) {
          Sum b = value();
          left = (t, l) -> a.of(t, l) * b.of(t, l);
        } else if (sign("/")) {
          Sum b = value();
          left = (t, l) -> b.of(t, l) == 0 ? 0 : a.of(t, l) / b.of(t, l);
        } else if (sign("%")) {
          Sum b = value();
          left = (t, l) -> b.of(t, l) == 0 ? 0 : a.of(t, l) % b.of(t, l);
        } else {
          return left;
        }
      }
    }

    Sum value() {
      blanks();
      int place = at;
      Sum found;
      if (digit()) {
        int number = number(0, 99999);
        found = (t, l) -> number;
      } else {
        String w = peekWord();
        found = named(w);
        if (found == null) {
          throw new Fault(place, 0);
        }
        at += w.length();
      }
      if (++parts > 60) {
        throw new Fault(place, 3);
      }
      return found;
    }

    static Sum named(String w) {
      switch (w) {
        case "line": return (t, l) -> l;
        case "odd": return (t, l) -> t.lines.get(l).odd;
        case "even": return (t, l) -> t.lines.get(l).even;
        case "pull": return (t, l) -> t.lines.get(l).pull;
        case "leanodd": return (t, l) -> t.houses.get(t.lines.get(l).odd).lean;
        case "leaneven": return (t, l) -> t.houses.get(t.lines.get(l).even).lean;
        case "footodd": return (t, l) -> t.houses.get(t.lines.get(l).odd).foot;
        case "footeven": return (t, l) -> t.houses.get(t.lines.get(l).even).foot;
        case "up": return (t, l) -> Integer.bitCount(t.up());
        case "standing": return (t, l) -> Integer.bitCount(t.standing());
        case "fades": return (t, l) -> t.fades;
        case "year": return (t, l) -> t.year;
        default: return null;
      }
    }
  }

  /** What an image keeps. */
  static final class All {
    Town town = null;
    Town told = null;
    int force = -1;
    int x = 0;
    List<int[]> notes = new ArrayList<>();

    All copy() {
      All all = new All();
      all.town = town == null ? null : town.copy();
      all.told = told;
      all.force = force;
      all.x = x;
      all.notes = new ArrayList<>(notes);
      return all;
    }
  }

  StringBuilder tape = new StringBuilder();
  List<Rule> rules = new ArrayList<>();
  All all = new All();
  All[] images = new All[4];
  List<Town> past = new ArrayList<>();

  private Rule rule() {
    return all.force < 0 ? null : rules.get(all.force);
  }

  private boolean house(int house) {
    return all.town != null && house >= 0 && house < all.town.houses.size();
  }

  private boolean stood(int house) {
    return house(house) && all.town.stands(house);
  }

  private void act() {
    past.add(all.town.copy());
    if (past.size() > 20) {
      past.remove(0);
    }
  }

  private static boolean in(int n, int least, int most) {
    return least <= n && n <= most;
  }

  int call(String name, int[] a) {
    switch (name) {
      case "feed": return feed(a);
      case "end": return end(a[0]);
      case "street": return street();
      case "rule": return makeRule();
      case "force": return force(a[0]);
      case "house": return house(a[0], a[1]);
      case "line": return line(a[0], a[1]);
      case "year": return year();
      case "tighten": return tighten(a[0], a[1]);
      case "cut": return cut(a[0]);
      case "hang": return hang(a[0], a[1], a[2]);
      case "prop": return prop(a[0], a[1]);
      case "undo": return undo();
      case "ahead": return ahead(a[0], a[1]);
      case "falls": return falls(a[0]);
      case "lasts": return lasts(a[0]);
      case "spare": return stood(a[0])
          ? all.town.houses.get(a[0]).foot + all.town.pullAt(a[0]) - all.town.houses.get(a[0]).lean : -1000;
      case "needed": return needed();
      case "fewest": return !stood(a[0]) || !in(a[1], 0, 1) ? -1 : leastSet(a[1], set ->
          !all.town.with(all.town.up() & ~set).stands(a[0]));
      case "down": return all.town == null || !in(a[0], 0, 1) ? -1 : leastSet(a[0], set ->
          all.town.with(all.town.up() & ~set).standing() == 0);
      case "byThese": return all.town == null || !in(a[0], 0, 1) ? -1 : leastSet(a[0], set ->
          all.town.with(set).standing() == all.town.standing());
      case "way": return way(a[0], a[1]);
      case "blocks": return blocks(a[0]);
      case "propped": return propped(a[0], a[1]);
      case "marry": return marry(a[0]);
      case "newLine": return newLine(a[0], a[1], a[2]);
      case "pulled": return pulled(a[0], a[1]);
      case "rests": return rests(a[0], a[1], a[2], a[3]);
      case "pence": return pence(a[0], a[1]);
      case "note": return note(a[0], a[1], a[2]);
      case "ruled": return ruled(a[0]);
      case "look": return look(a[0], a[1]);
      case "seed": return seed(a[0]);
      case "winters": return winters(a[0], a[1], a[2], a[3]);
      case "count": return count(a[0]);
      case "image": return image(a[0]);
      case "back": return back(a[0]);
      default: throw new IllegalArgumentException(name);
    }
  }

  int feed(int[] a) {
    if (tape.length() > 380) {
      return -1;
    }
    for (int n : a) {
      for (byte b : java.nio.ByteBuffer.allocate(4).putInt(n).array()) {
        tape.append((char) (b & 255));
      }
    }
    return tape.length();
  }

  int end(int n) {
    if (n < 0 || n > tape.length()) {
      return -1;
    }
    tape.setLength(n);
    return n;
  }

  int street() {
    String text = takeTape();
    try {
      Town town = new Parser(text).town();
      all.town = town;
      all.told = town.copy();
      all.notes = new ArrayList<>();
      past.clear();
      return town.lines.size();
    } catch (Fault fault) {
      return -2 - fault.number;
    }
  }

  /** The tape is empty then, whether its text has a fault or not. */
  private String takeTape() {
    String text = tape.toString();
    tape.setLength(0);
    return text;
  }

  int makeRule() {
    if (rules.size() == 6) {
      return -1;
    }
    String text = takeTape();
    try {
      rules.add(new Parser(text).rule());
      return rules.size() - 1;
    } catch (Fault fault) {
      return -2 - fault.number;
    }
  }

  int force(int rule) {
    if (!in(rule, -1, rules.size() - 1)) {
      return -2;
    }
    int was = all.force;
    all.force = rule;
    return was;
  }

  int house(int house, int what) {
    if (!house(house) || !in(what, 0, 3)) {
      return -1;
    }
    House it = all.town.houses.get(house);
    int bits = 0;
    for (int i = 0; i < all.town.lines.size(); i++) {
      bits |= all.town.isUp(i) && all.town.lines.get(i).at(house) ? 1 << i : 0;
    }
    return new int[] {it.lean, it.foot, it.stands ? 1 : 0, bits}[what];
  }

  int line(int line, int what) {
    if (all.town == null || !in(line, 0, all.town.lines.size() - 1) || !in(what, 0, 3)) {
      return -1;
    }
    Line it = all.town.lines.get(line);
    return new int[] {it.odd, it.even, it.up ? it.pull : 0, it.up ? 1 : 0}[what];
  }

  int year() {
    if (all.town == null || all.town.year == 999) {
      return -1;
    }
    act();
    return all.town.pass(rule());
  }

  int tighten(int line, int much) {
    if (all.town == null || !all.town.isUp(line) || !in(much, 1, 9)) {
      return -1;
    }
    act();
    Line it = all.town.lines.get(line);
    it.pull = Math.min(60, it.pull + much);
    return it.pull;
  }

  int cut(int line) {
    if (all.town == null || !all.town.isUp(line)) {
      return -1;
    }
    act();
    all.town.lines.get(line).up = false;
    return all.town.giveWay();
  }

  int hang(int odd, int even, int pull) {
    if (!stood(odd) || !stood(even) || odd >= all.town.size || even < all.town.size || !in(pull, 1, 40)
        || all.town.hangable() < 0) {
      return -1;
    }
    act();
    int at = all.town.hangable();
    all.town.hang(at, odd, even, pull);
    return at;
  }

  int prop(int house, int much) {
    if (!stood(house) || !in(much, 1, 9)) {
      return -1;
    }
    act();
    House it = all.town.houses.get(house);
    it.foot = Math.min(60, it.foot + much);
    return it.foot;
  }

  int undo() {
    if (past.isEmpty()) {
      return -1;
    }
    all.town = past.remove(past.size() - 1);
    return past.size();
  }

  int ahead(int n, int what) {
    if (all.town == null || !in(n, 0, 100) || !in(what, 0, 2)) {
      return -1;
    }
    Town town = all.town.after(n, rule());
    return what == 0 ? town.standing() : what == 1 ? town.up()
        : town.lines.stream().filter(l -> l.up).mapToInt(l -> l.pull).sum();
  }

  int falls(int what) {
    if (all.town == null || !in(what, 0, 1)) {
      return -1;
    }
    Town town = all.town.copy();
    for (int n = 0; n < 200; n++) {
      int fallen = town.pass(rule());
      if (fallen != 0) {
        return what == 0 ? all.town.year + n : Integer.numberOfTrailingZeros(fallen);
      }
    }
    return -2;
  }

  int lasts(int house) {
    if (!stood(house)) {
      return -1;
    }
    Town town = all.town.copy();
    for (int n = 0; n < 200; n++) {
      town.pass(rule());
      if (!town.stands(house)) {
        return all.town.year + n;
      }
    }
    return -2;
  }

  int needed() {
    if (all.town == null) {
      return -1;
    }
    int bits = 0;
    for (int i = 0; i < 8; i++) {
      if (all.town.isUp(i) && all.town.with(all.town.up() - (1 << i)).standing() != all.town.standing()) {
        bits += 1 << i;
      }
    }
    return bits;
  }

  private int leastSet(int what, Predicate<Integer> does) {
    for (int many = 0; many <= 8; many++) {
      for (int set = 0; set < 256; set++) {
        if (Integer.bitCount(set) == many && (set & all.town.up()) == set && does.test(set)) {
          return what == 0 ? many : set;
        }
      }
    }
    return -2;
  }

  private int[][] distances() {
    int n = all.town.houses.size();
    int[][] far = new int[n][n];
    for (int i = 0; i < n; i++) {
      Arrays.fill(far[i], 99);
      far[i][i] = 0;
    }
    for (Line line : all.town.lines) {
      if (line.up) {
        far[line.odd][line.even] = 1;
        far[line.even][line.odd] = 1;
      }
    }
    for (int k = 0; k < n; k++) {
      for (int i = 0; i < n; i++) {
        for (int j = 0; j < n; j++) {
          far[i][j] = Math.min(far[i][j], far[i][k] + far[k][j]);
        }
      }
    }
    return far;
  }

  int way(int house, int other) {
    if (!house(house) || !house(other)) {
      return -1;
    }
    int far = distances()[house][other];
    return far >= 99 ? -2 : far;
  }

  int blocks(int house) {
    if (all.town == null || (house != -1 && !stood(house))) {
      return -2;
    }
    int[][] far = distances();
    java.util.Set<Integer> found = new java.util.HashSet<>();
    int mine = 0;
    for (int i = 0; i < far.length; i++) {
      if (all.town.stands(i)) {
        int bits = 0;
        for (int j = 0; j < far.length; j++) {
          bits |= far[i][j] < 99 ? 1 << j : 0;
        }
        found.add(bits);
        mine = i == house ? bits : mine;
      }
    }
    return house == -1 ? found.size() : mine;
  }

  int propped(int house, int n) {
    if (!stood(house) || !in(n, 1, 40)) {
      return -1;
    }
    for (int much = 0; much <= 60; much++) {
      Town town = all.town.copy();
      town.houses.get(house).foot += much;
      if (town.after(n, rule()).stands(house)) {
        return much;
      }
    }
    return -2;
  }

  int marry(int what) {
    if (all.town == null || !in(what, -1, 4)) {
      return -3;
    }
    int size = all.town.size;
    if (what >= size) {
      return -2;
    }
    int[] best = null;
    int most = -1;
    int ways = (int) Math.pow(size + 1, size);
    for (int way = 0; way < ways; way++) {
      int[] with = new int[size];
      int rest = way;
      for (int odd = size - 1; odd >= 0; odd--) {
        with[odd] = rest % (size + 1) - 1;
        rest /= size + 1;
      }
      int pairs = pairsOf(with);
      if (pairs > most) {
        most = pairs;
        best = with;
      }
    }
    return what == -1 ? most : best[what] == -1 ? -1 : best[what] + size;
  }

  /** -1, if it is no way to pair. */
  private int pairsOf(int[] with) {
    int used = 0;
    int pairs = 0;
    for (int odd = 0; odd < with.length; odd++) {
      if (with[odd] >= 0) {
        int o = odd;
        int even = with[odd] + all.town.size;
        if ((used >> even & 1) == 1 || all.town.lines.stream().noneMatch(l -> l.up && l.odd == o && l.even == even)) {
          return -1;
        }
        used |= 1 << even;
        pairs++;
      }
    }
    return pairs;
  }

  int newLine(int pull, int n, int what) {
    if (all.town == null || !in(pull, 1, 40) || !in(n, 1, 40) || !in(what, 0, 2)) {
      return -2;
    }
    int[] best = {Integer.bitCount(all.town.after(n, rule()).standing()), -1, -1};
    for (int odd = 0; odd < all.town.size; odd++) {
      for (int even = all.town.size; even < 2 * all.town.size; even++) {
        Town town = all.town.copy();
        if (town.hangable() >= 0 && town.stands(odd) && town.stands(even)) {
          town.hang(town.hangable(), odd, even, pull);
          int many = Integer.bitCount(town.after(n, rule()).standing());
          if (many > best[0]) {
            best = new int[] {many, odd, even};
          }
        }
      }
    }
    return best[what];
  }

  /** The first year is 0, so behind the n-th year n + 1 have gone by. */
  private static Town behind(Town told, int n, Rule rule) {
    return told.after(n + 1, rule);
  }

  private boolean fits(Town told, Rule rule) {
    return all.notes.stream().allMatch(note -> behind(told, note[0], rule).stands(note[1]) == (note[2] == 1));
  }

  int pulled(int line, int what) {
    if (all.told == null || !in(line, 0, all.told.lines.size() - 1) || !in(what, 0, 1)) {
      return -1;
    }
    List<Integer> found = new ArrayList<>();
    for (int pull = 1; pull <= 40; pull++) {
      Town town = all.told.copy();
      town.lines.get(line).pull = pull;
      if (fits(town, rule())) {
        found.add(pull);
      }
    }
    return what == 0 ? found.size() : found.isEmpty() ? -2 : found.get(0);
  }

  int rests(int one, int other, int n, int what) {
    if (!stood(one) || !stood(other) || one == other || !in(n, 1, 20) || !in(what, 0, 2)) {
      return -1;
    }
    int[][][] has = new int[2][2][2];
    for (int a = 0; a < 2; a++) {
      for (int b = 0; b < 2; b++) {
        Town town = all.town.copy();
        for (Line line : town.lines) {
          line.up &= !(a == 1 && line.at(one)) && !(b == 1 && line.at(other));
        }
        town.giveWay();
        for (int y = 1; y <= n; y++) {
          has[a][b][0] += town.after(y, rule()).stands(one) ? 1 : 0;
          has[a][b][1] += town.after(y, rule()).stands(other) ? 1 : 0;
        }
        has[a][b][0] += town.after(n, rule()).upAt(one);
        has[a][b][1] += town.after(n, rule()).upAt(other);
      }
    }
    List<int[]> found = new ArrayList<>();
    for (int a = 0; a < 2; a++) {
      for (int b = 0; b < 2; b++) {
        if (has[1 - a][b][0] <= has[a][b][0] && has[a][1 - b][1] <= has[a][b][1]) {
          found.add(new int[] {a, b});
        }
      }
    }
    return what == 0 ? found.size() : found.isEmpty() ? -2 : found.get(0)[what - 1];
  }

  int pence(int much, int house) {
    if (!in(much, 0, 9999) || !house(house)) {
      return -1;
    }
    int n = all.town.houses.size();
    int sum = 0;
    for (int i = 0; i < n; i++) {
      sum += all.town.stands(i) ? all.town.houses.get(i).lean : 0;
    }
    if (sum == 0) {
      return 0;
    }
    int[] has = new int[n];
    int[] lost = new int[n];
    int left = much;
    for (int i = 0; i < n; i++) {
      int lean = all.town.stands(i) ? all.town.houses.get(i).lean : 0;
      has[i] = much * lean / sum;
      lost[i] = all.town.stands(i) ? much * lean - has[i] * sum : -1;
      left -= has[i];
    }
    for (; left > 0; left--) {
      int best = 0;
      for (int i = 1; i < n; i++) {
        best = lost[i] > lost[best] ? i : best;
      }
      has[best]++;
      lost[best] = -1;
    }
    return has[house];
  }

  int note(int n, int house, int stood) {
    if (n == -1) {
      all.notes.clear();
      return 0;
    }
    if (!in(n, 0, 60) || !house(house) || !in(stood, 0, 1) || all.notes.size() == 10) {
      return -2;
    }
    all.notes.add(new int[] {n, house, stood});
    return all.notes.size();
  }

  private List<Integer> fitting() {
    List<Integer> found = new ArrayList<>();
    for (int rule = -1; rule < rules.size(); rule++) {
      if (fits(all.told, rule < 0 ? null : rules.get(rule))) {
        found.add(rule);
      }
    }
    return found;
  }

  int ruled(int what) {
    if (all.town == null || !in(what, 0, 1)) {
      return -3;
    }
    List<Integer> found = fitting();
    return what == 0 ? found.size() : found.isEmpty() ? -2 : found.get(0);
  }

  int look(int n, int what) {
    if (all.town == null || !in(n, 0, 60) || !in(what, 0, 1)) {
      return -1;
    }
    List<Integer> found = fitting();
    if (found.isEmpty()) {
      return -2;
    }
    int best = -1;
    int fewest = 99;
    for (int house = 0; house < all.town.houses.size(); house++) {
      int h = house;
      int stand = (int) found.stream().filter(r -> behind(all.told, n, r < 0 ? null : rules.get(r)).stands(h)).count();
      int alike = Math.max(stand, found.size() - stand);
      if (alike < fewest) {
        fewest = alike;
        best = house;
      }
    }
    return what == 0 ? best : fewest;
  }

  int seed(int x) {
    if (x < 0) {
      return -1;
    }
    int was = all.x;
    all.x = x;
    return was;
  }

  private static long next(long x) {
    return Math.floorMod(x * 1103515245L + 12345L, 1L << 31);
  }

  int winters(int m, int n, int p, int what) {
    if (all.town == null || !in(m, 1, 10) || !in(n, 1, 60) || !in(p, 0, 100) || !in(what, 0, 1)) {
      return -1;
    }
    long x = all.x;
    int houses = 0;
    int lines = 0;
    for (int i = 0; i < m; i++) {
      Town town = all.town.copy();
      for (int y = 0; y < n; y++) {
        x = next(x);
        if ((x >> 16) % 100 < p) {
          x = next(x);
          town.houses.get((int) ((x >> 16) % town.houses.size())).lean++;
        }
        town.pass(rule());
      }
      houses += Integer.bitCount(town.standing());
      lines += Integer.bitCount(town.up());
    }
    return what == 0 ? houses : lines;
  }

  int count(int what) {
    Town town = all.town == null ? new Town() : all.town;
    int pull = town.lines.stream().filter(l -> l.up).mapToInt(l -> l.pull).sum();
    int lean = town.houses.stream().filter(h -> h.stands).mapToInt(h -> h.lean).sum();
    int[] counts = {town.size, town.fades, town.lines.size(), rules.size(), all.force, town.year, town.standing(),
        town.up(), pull, lean, all.notes.size(), past.size(), all.x, tape.length()};
    return in(what, 0, 13) ? counts[what] : -1;
  }

  int image(int k) {
    if (!in(k, 0, 3)) {
      return -1;
    }
    images[k] = all.copy();
    return count(5);
  }

  int back(int k) {
    if (!in(k, 0, 3) || images[k] == null) {
      return -1;
    }
    all = images[k].copy();
    past.clear();
    return count(5);
  }
}

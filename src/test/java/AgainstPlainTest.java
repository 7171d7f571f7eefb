import java.lang.reflect.Method;
import java.util.ArrayList;
import java.util.Arrays;
import java.util.List;
import java.util.Random;

/** Runs of drawn calls, each answered by the program and by PlainBunting alike. */
public final class AgainstPlainTest {
  private static final int RUNS = 800;
  private static final int CALLS = 400;
  private static final String[] WORDS = {"line", "odd", "even", "pull", "leanodd", "leaneven", "footodd", "footeven",
      "up", "standing", "fades", "year"};
  private static final String[] BROKEN = {"x", ";", "[", "]", "not", "and", "or", "if", "keep", "street", "house",
      "line", "123456", "99999", "41", "0", " ", "<", "=", ">=", "+", "%", "\u00e9", "A", "=<", "- -"};

  private static final int[] FAR = {Integer.MIN_VALUE, Integer.MIN_VALUE + 1, -65536, -256, -32, -3, 31, 32, 33, 64,
      256, 65536, 1 << 30, Integer.MAX_VALUE - 1, Integer.MAX_VALUE};

  private final Random random;
  private final TannerBunting program = new TannerBunting();
  private final PlainBunting plain = new PlainBunting();
  private final List<String> told = new ArrayList<>();
  private int calls = 0;
  private boolean wrong = false;

  private AgainstPlainTest(long seed) {
    random = new Random(seed);
  }

  private int draw(int least, int most) {
    return least + random.nextInt(most - least + 1);
  }

  private boolean chance(int percent) {
    return random.nextInt(100) < percent;
  }

  private int ask(String name, int... meant) {
    calls++;
    int[] a = strayed(name, meant);
    int want = plain.call(name, a);
    int got = answer(name, a);
    told.add(name + Arrays.toString(a) + " " + got);
    if (got != want) {
      wrong = true;
      System.out.println(String.join("\n", told));
      System.out.println("due is " + want);
    }
    return want;
  }

  /** Now and then a number that is far from all that can be meant; what is fed is any number. */
  private int[] strayed(String name, int[] meant) {
    if (meant.length == 0 || name.equals("feed") || name.equals("end") || !chance(3)) {
      return meant;
    }
    int[] a = meant.clone();
    a[draw(0, a.length - 1)] = FAR[draw(0, FAR.length - 1)];
    return a;
  }

  private int answer(String name, int[] a) {
    try {
      Class<?>[] types = new Class<?>[a.length];
      Arrays.fill(types, int.class);
      Method method = TannerBunting.class.getMethod(name, types);
      return (Integer) method.invoke(program, Arrays.stream(a).boxed().toArray());
    } catch (ReflectiveOperationException e) {
      throw new IllegalStateException(name + Arrays.toString(a), e);
    }
  }

  private void say(String text) {
    // Now and then behind what the tape has, which is nothing behind a street or a rule, faulty or not.
    if (chance(90)) {
      ask("end", 0);
    }
    int before = plain.count(13);
    told.add("\"" + text + "\"");
    for (int at = 0; at < text.length() && at < 400; at += 20) {
      int[] five = new int[5];
      for (int i = 0; i < 20; i++) {
        five[i / 4] = five[i / 4] << 8 | (at + i < text.length() ? text.charAt(at + i) : 0);
      }
      ask("feed", five);
    }
    ask("end", Math.min(400, before + text.length()));
  }

  private String blank() {
    return chance(15) ? " ".repeat(draw(1, 3)) : "";
  }

  private String street() {
    int size = draw(1, 5);
    StringBuilder s = new StringBuilder(blank() + "street " + size + " " + draw(0, chance(70) ? 2 : 9));
    int most = chance(5) ? 9 : 8;
    int lines = draw(0, most);
    int feet = draw(1, 30);
    for (int h = 0; h < 2 * size; h++) {
      if (chance(80)) {
        s.append(";" + blank() + "house " + h + " " + draw(0, chance(80) ? 20 : 60) + " " + draw(0, feet));
      }
    }
    for (int l = 0; l < lines; l++) {
      s.append(";line " + draw(0, size - 1) + " " + draw(size, 2 * size - 1) + " " + draw(1, 40) + blank());
    }
    return s.toString();
  }

  private String sum() {
    StringBuilder s = new StringBuilder(value());
    while (chance(45)) {
      s.append(blank() + "+-*/%".charAt(draw(0, 4)) + blank() + value());
    }
    return s.toString();
  }

  private String value() {
    return chance(60) ? WORDS[draw(0, WORDS.length - 1)] : "" + draw(0, chance(90) ? 20 : 99999);
  }

  private String test(int deep) {
    StringBuilder s = new StringBuilder(fact(deep));
    while (chance(35)) {
      s.append(" " + (chance(50) ? "and" : "or") + " " + fact(deep));
    }
    return s.toString();
  }

  private String fact(int deep) {
    if (deep > 0 && chance(25)) {
      return "not " + fact(deep - 1);
    }
    if (deep > 0 && chance(25)) {
      return "[" + blank() + test(deep - 1) + "]";
    }
    return sum() + blank() + new String[] {"<", "<=", "=", ">=", ">"}[draw(0, 4)] + blank() + sum();
  }

  private String rule() {
    StringBuilder s = new StringBuilder();
    int clauses = chance(90) ? draw(1, 3) : draw(1, 13);
    for (int i = 0; i < clauses; i++) {
      s.append(i == 0 ? "" : ";" + blank());
      s.append("keep " + sum() + (chance(70) ? " if " + test(chance(90) ? 3 : 14) : ""));
    }
    return s.toString();
  }

  private String broken(String text) {
    if (text.isEmpty() || !chance(30)) {
      return text;
    }
    int at = draw(0, text.length());
    String piece = BROKEN[draw(0, BROKEN.length - 1)];
    int over = Math.min(text.length(), at + draw(0, 3));
    return text.substring(0, at) + piece + text.substring(over);
  }

  private int house() {
    return draw(chance(5) ? -2 : 0, chance(5) ? 11 : Math.max(0, 2 * plain.count(0) - 1));
  }

  private int line() {
    return draw(chance(5) ? -2 : 0, chance(10) ? 9 : Math.max(0, plain.count(2) - 1));
  }

  private int what(int least, int most) {
    return chance(4) ? draw(least - 2, most + 2) : draw(least, most);
  }

  private void step() {
    switch (draw(0, 39)) {
      case 0: say(broken(street())); if (chance(20)) { ask("street"); } return;
      case 1: case 2: say(broken(rule())); ask("rule"); return;
      case 3: ask("force", what(-1, plain.count(3) - 1)); return;
      case 4: ask("house", house(), what(0, 3)); return;
      case 5: ask("line", line(), what(0, 3)); return;
      case 6: ask("year"); return;
      case 7: ask("tighten", line(), what(1, 9)); return;
      case 8: if (chance(30)) { ask("cut", line()); } return;
      case 9: case 10: ask("hang", draw(0, Math.max(0, plain.count(0) - 1)), house(), what(1, 40)); return;
      case 11: ask("prop", house(), what(1, 9)); return;
      case 12: if (chance(50)) { ask("undo"); } return;
      case 13: ask("ahead", what(0, chance(80) ? 8 : 100), what(0, 2)); return;
      case 14: ask("falls", what(0, 1)); return;
      case 15: ask("lasts", house()); return;
      case 16: ask("spare", house()); return;
      case 17: ask("needed"); return;
      case 18: ask("fewest", house(), what(0, 1)); return;
      case 19: ask("down", what(0, 1)); return;
      case 20: ask("byThese", what(0, 1)); return;
      case 21: ask("way", house(), house()); return;
      case 22: ask("blocks", chance(30) ? -1 : house()); return;
      case 23: ask("propped", house(), what(1, chance(80) ? 8 : 40)); return;
      case 24: ask("marry", what(-1, 4)); return;
      case 25: ask("newLine", what(1, 40), what(1, chance(80) ? 8 : 40), what(0, 2)); return;
      case 26: case 27: ask("pulled", line(), what(0, 1)); return;
      case 28: ask("rests", house(), house(), what(1, 20), what(0, 2)); return;
      case 29: ask("pence", what(0, chance(70) ? 50 : 9999), house()); return;
      case 30: case 31: ask("note", chance(10) ? -1 : what(0, chance(80) ? 8 : 60), house(), what(0, 1)); return;
      case 32: ask("ruled", what(0, 1)); return;
      case 33: ask("look", what(0, chance(80) ? 8 : 60), what(0, 1)); return;
      case 34: ask("seed", chance(5) ? -5 : random.nextInt(Integer.MAX_VALUE)); return;
      case 35: ask("winters", what(1, 10), what(1, chance(70) ? 8 : 60), what(0, 100), what(0, 1)); return;
      case 36: case 37: ask("count", what(0, 13)); return;
      case 38: ask("image", what(0, 3)); return;
      default: ask("back", what(0, 3)); return;
    }
  }

  private boolean run() {
    while (!wrong && calls < CALLS) {
      if (plain.count(0) == 0 && chance(60) || chance(2)) {
        say(street());
        ask("street");
      }
      step();
    }
    return !wrong;
  }

  public static void main(String[] args) {
    long first = args.length > 0 ? Long.parseLong(args[0]) : 1;
    int runs = args.length > 1 ? Integer.parseInt(args[1]) : RUNS;
    for (long seed = first; seed < first + runs; seed++) {
      if (!new AgainstPlainTest(seed).run()) {
        System.out.println("run " + seed + " is wrong");
        System.exit(1);
      }
    }
    System.out.println(runs + " runs are alike");
  }
}

/** What the project's tests share: calls with the answer that is due, and texts fed to the tape. */
final class Checks {
  /** 0: 10 on 3, 1: 4 on 5, 2: 6 on 2, 3: 9 on 1; lines 0-2 by 6, 0-3 by 5, 1-3 by 4; fades 2. */
  static final String SAMPLE =
      "street 2 2;house 0 10 3;house 1 4 5;house 2 6 2;house 3 9 1;line 0 2 6;line 0 3 5;line 1 3 4";

  /** The same, without fading. */
  static final String STEADY = SAMPLE.replace("street 2 2", "street 2 0");

  private int wrong = 0;
  private int done = 0;

  void due(String call, int got, int want) {
    done++;
    if (got != want) {
      wrong++;
      System.out.println(call + " answered " + got + ", due is " + want);
    }
  }

  void finish() {
    System.out.println(done + " calls, " + wrong + " of them wrong");
    if (wrong != 0 || done == 0) {
      System.exit(1);
    }
  }

  /** The tape is this text alone. */
  static void tape(TannerBunting x, String text) {
    x.end(0);
    for (int at = 0; at < text.length(); at += 20) {
      int[] five = new int[5];
      for (int i = 0; i < 20; i++) {
        int sign = at + i < text.length() ? text.charAt(at + i) : 0;
        five[i / 4] = five[i / 4] << 8 | sign;
      }
      x.feed(five[0], five[1], five[2], five[3], five[4]);
    }
    if (x.end(text.length()) != text.length()) {
      throw new IllegalStateException("the tape does not take " + text.length() + " bytes");
    }
  }

  static int street(TannerBunting x, String text) {
    tape(x, text);
    return x.street();
  }

  static int rule(TannerBunting x, String text) {
    tape(x, text);
    return x.rule();
  }

  static TannerBunting on(String text) {
    TannerBunting x = new TannerBunting();
    if (street(x, text) < 0) {
      throw new IllegalStateException("no street: " + text);
    }
    return x;
  }

  static int fault(int place, int kind) {
    return -2 - (1 + 8 * place + kind);
  }
}

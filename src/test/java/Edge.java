import java.lang.reflect.Method;
import java.util.ArrayList;
import java.util.Arrays;
import java.util.HashMap;
import java.util.List;
import java.util.Map;

/**
 * One sentence of the document that names a boundary, and what it asks of calls. Calls that change something are kept,
 * so that the same object can be made again, once with a call that must change nothing and once without.
 */
final class Edge {
  private static final int MOST_CALLS = 512;
  private static final int[] FAR = {Integer.MIN_VALUE, Integer.MIN_VALUE + 1, -65536, -1000, -256, -64, -32,
      32, 64, 256, 1000, 65536, 1 << 30, Integer.MAX_VALUE - 1, Integer.MAX_VALUE};
  private static final Map<String, Method> FACE = face();

  private record Call(String name, int[] a) {
    @Override
    public String toString() {
      return name + Arrays.toString(a).replace('[', '(').replace(']', ')');
    }
  }

  /** An object with what it was called: behind its 512th call its answers are free. */
  private static final class Counted {
    final TannerBunting x = new TannerBunting();
    int calls = 0;

    int call(String name, int... a) {
      return call(new Call(name, a));
    }

    int call(Call call) {
      calls++;
      try {
        return (Integer) FACE.get(call.name).invoke(x, Arrays.stream(call.a).boxed().toArray());
      } catch (ReflectiveOperationException e) {
        throw new IllegalStateException(call.toString(), e);
      }
    }
  }

  private final Edges edges;
  private final String sentence;
  private final List<Call> past = new ArrayList<>();
  private Counted now = new Counted();
  private List<Integer> seen = null;

  Edge(Edges edges, String sentence) {
    this.edges = edges;
    this.sentence = sentence;
  }

  private static Map<String, Method> face() {
    Map<String, Method> face = new HashMap<>();
    for (Method method : TannerBunting.class.getDeclaredMethods()) {
      face.put(method.getName(), method);
    }
    return face;
  }

  /** A new object for the same sentence. */
  Edge anew() {
    past.clear();
    now = new Counted();
    seen = null;
    return this;
  }

  /** A new object with this street. */
  Edge on(String street) {
    anew();
    tape(street);
    if (keep("street") < 0) {
      throw new IllegalStateException("no street: " + street);
    }
    return this;
  }

  /** A new object in which there is something of everything: house 3 fell, line 2 is not up, 4 acts, 2 images. */
  Edge rich() {
    on(Checks.SAMPLE);
    return rule(0, "keep pull - 1").rule(1, "keep 1 if year < 3").does(-1, "force", 1).does(0, "seed", 77)
        .does(1, "note", 2, 0, 1).does(2, "note", 5, 3, 0).does(7, "prop", 0, 4).does(0, "image", 1)
        .does(15, "tighten", 0, 9).does(8, "year").does(1, "hang", 1, 2, 7).does(1, "image", 3).tape("street 1 7");
  }

  Edge tape(String text) {
    for (Call call : feeding(text)) {
      past.add(call);
      now.call(call);
    }
    seen = null;
    return this;
  }

  /** The calls by which the tape is this text alone. */
  private static List<Call> feeding(String text) {
    List<Call> calls = new ArrayList<>();
    calls.add(new Call("end", new int[] {0}));
    for (int at = 0; at < text.length(); at += 20) {
      int[] five = new int[5];
      for (int i = 0; i < 20; i++) {
        five[i / 4] = five[i / 4] << 8 | (at + i < text.length() ? text.charAt(at + i) : 0);
      }
      calls.add(new Call("feed", five));
    }
    calls.add(new Call("end", new int[] {text.length()}));
    return calls;
  }

  /** A call that may change something. */
  Edge does(int want, String name, int... a) {
    due(new Call(name, a).toString(), keep(name, a), want);
    return this;
  }

  private int keep(String name, int... a) {
    Call call = new Call(name, a);
    past.add(call);
    seen = null;
    int got = now.call(call);
    if (now.calls > MOST_CALLS) {
      throw new IllegalStateException("more than 512 calls: " + sentence);
    }
    return got;
  }

  /** A call by which nothing changes: a question, or one that is refused. */
  Edge asks(int want, String name, int... a) {
    Call call = new Call(name, a);
    Counted with = replayed();
    due(call.toString(), with.call(call), want);
    alike(call + " changes nothing", with);
    return this;
  }

  /** All numbers beyond these two are refused, as the at-th of what the call is told. */
  Edge beyond(int want, int least, int most, String name, int at, int... a) {
    List<Integer> tried = new ArrayList<>(List.of(least - 1, most + 1));
    for (int far : FAR) {
      tried.add(far);
    }
    for (int number : tried) {
      if (number < least || number > most) {
        int[] told = a.clone();
        told[at] = number;
        asks(want, name, told);
      }
    }
    return this;
  }

  Edge street(int want, String text) {
    return tape(text).does(want, "street");
  }

  Edge rule(int want, String text) {
    return tape(text).does(want, "rule");
  }

  /** The text is taken, by an object like this one. */
  Edge taken(int want, String name, String text) {
    Counted with = replayed();
    feeding(text).forEach(with::call);
    due(name + " of " + text, with.call(name), want);
    due("bytes of the tape behind " + name + " of " + text, with.call("count", 13), 0);
    return this;
  }

  /** The text has a fault where ^ stands: the tape is empty then, and all else stays. */
  Edge bad(String name, String text, int kind) {
    int place = text.indexOf('^');
    String told = text.substring(0, place) + text.substring(place + 1);
    Counted with = replayed();
    feeding(told).forEach(with::call);
    due(name + " of " + text, with.call(name), -2 - (1 + 8 * place + kind));
    Counted without = replayed();
    without.call("end", 0);
    due("all stays by " + name + " of " + text, isAlike(look(with), look(without)), 1);
    return this;
  }

  /** Whether a line is kept in YEAR 0 by a rule, on a street of its own: houses 0 and 1, a line that pulls 9. */
  Edge keeps(int want, String rule) {
    on("street 1 0;house 0 3 7;house 1 4 8;line 0 1 9").rule(0, rule).does(-1, "force", 0);
    return asks(want, "ahead", 1, 1);
  }

  /**
   * Each question is answered as it is alone, if all are asked one behind the other, and back again; and then of
   * another street, as if nothing had ever been asked.
   */
  Edge inAnyOrder(String next, String... questions) {
    Counted all = replayed();
    for (int i = 0; i < 2 * questions.length; i++) {
      Call call = question(questions[i < questions.length ? i : 2 * questions.length - 1 - i]);
      due(call + " among others", all.call(call), replayed().call(call));
    }
    feeding(next).forEach(all::call);
    all.call("street");
    for (String question : questions) {
      Call call = question(question);
      Counted alone = replayed();
      feeding(next).forEach(alone::call);
      alone.call("street");
      due(call + " among others of " + next, all.call(call), alone.call(call));
    }
    return this;
  }

  private static Call question(String told) {
    String[] parts = told.split(" ");
    return new Call(parts[0], Arrays.stream(parts).skip(1).mapToInt(Integer::parseInt).toArray());
  }

  private Counted replayed() {
    Counted again = new Counted();
    past.forEach(again::call);
    return again;
  }

  private void alike(String what, Counted with) {
    if (seen == null) {
      seen = look(replayed());
    }
    due(what, isAlike(look(with), seen), 1);
  }

  /** An object that was called more often comes to its 512th call earlier. */
  private static int isAlike(List<Integer> one, List<Integer> other) {
    int least = Math.min(one.size(), other.size());
    return one.subList(0, least).equals(other.subList(0, least)) ? 1 : 0;
  }

  private void due(String what, int got, int want) {
    edges.due(sentence, what, got, want);
  }

  /** All that can be seen of an object, by questions at first, then by undoing and going back; it is spent then. */
  private static List<Integer> look(Counted x) {
    List<Integer> seen = new ArrayList<>();
    for (int what = 0; what <= 13; what++) {
      see(seen, x, "count", what);
    }
    int houses = 2 * x.x.count(0);
    int lines = x.x.count(2);
    int rules = x.x.count(3);
    x.calls += 3;
    for (int what = 0; what < 4; what++) {
      for (int house = 0; house < houses; house++) {
        see(seen, x, "house", house, what);
      }
      for (int line = 0; line < lines; line++) {
        see(seen, x, "line", line, what);
      }
    }
    for (int what = 0; what < 2; what++) {
      see(seen, x, "ruled", what);
      see(seen, x, "look", 2, what);
      see(seen, x, "winters", 2, 6, 50, what);
      see(seen, x, "pulled", 0, what);
    }
    for (int rule = 0; rule < rules; rule++) {
      see(seen, x, "force", rule);
      see(seen, x, "ahead", 1, 1);
      see(seen, x, "ahead", 4, 2);
    }
    lookBack(seen, x, houses);
    return seen;
  }

  private static void lookBack(List<Integer> seen, Counted x, int houses) {
    for (int acts = 0; acts < 21 && see(seen, x, "undo") >= 0; acts++) {
      for (int what : new int[] {2, 5, 6, 7, 8}) {
        see(seen, x, "count", what);
      }
      for (int house = 0; house < houses && house < 4; house++) {
        see(seen, x, "house", house, 1);
      }
    }
    for (int k = 0; k < 4; k++) {
      if (see(seen, x, "back", k) >= 0) {
        for (int what : new int[] {0, 1, 2, 4, 6, 7, 8, 9, 10, 12}) {
          see(seen, x, "count", what);
        }
      }
    }
    see(seen, x, "street");
    see(seen, x, "count", 0);
    see(seen, x, "count", 1);
  }

  private static int see(List<Integer> seen, Counted x, String name, int... a) {
    if (x.calls >= MOST_CALLS) {
      return -1;
    }
    int got = x.call(name, a);
    seen.add(got);
    return got;
  }
}

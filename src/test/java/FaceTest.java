import java.io.IOException;
import java.lang.reflect.Field;
import java.lang.reflect.Method;
import java.lang.reflect.Modifier;
import java.nio.file.Files;
import java.nio.file.Path;
import java.util.Arrays;
import java.util.List;
import java.util.Set;
import java.util.TreeSet;
import java.util.regex.Matcher;
import java.util.regex.Pattern;
import java.util.stream.Collectors;

/** The document's face and no more, and what of LANGUAGE.md can be seen from outside. */
public final class FaceTest {
  private static final List<String> FACE = List.of("feed/5", "end/1", "street/0", "rule/0", "force/1", "house/2",
      "line/2", "year/0", "tighten/2", "cut/1", "hang/3", "prop/2", "undo/0", "ahead/2", "falls/1", "lasts/1",
      "spare/1", "needed/0", "fewest/2", "down/1", "byThese/1", "way/2", "blocks/1", "propped/2", "marry/1",
      "newLine/3", "pulled/2", "rests/4", "pence/2", "note/3", "ruled/1", "look/2", "seed/1", "winters/4",
      "count/1", "image/1", "back/1");
  private static final List<String> RULED_OUT = List.of("throw", "try", "catch", "synchronized", "assert", "import",
      "->", "::", "System.out", "protected");

  private static final Pattern TOLD = Pattern.compile("    public int (\\w+)\\((.*)\\);");

  private static int wrong = 0;

  private static void hold(String what, boolean holds) {
    if (!holds) {
      wrong++;
      System.out.println("not so: " + what);
    }
  }

  private static void face() {
    Set<String> found = new TreeSet<>();
    Set<String> names = FACE.stream().map(f -> f.substring(0, f.indexOf('/'))).collect(Collectors.toSet());
    for (Method method : TannerBunting.class.getDeclaredMethods()) {
      if (Modifier.isPublic(method.getModifiers())) {
        found.add(method.getName() + "/" + method.getParameterCount());
        hold(method.getName() + " answers int", method.getReturnType() == int.class);
        hold(method.getName() + " is the object's", !Modifier.isStatic(method.getModifiers()));
      } else {
        hold(method.getName() + " is private", Modifier.isPrivate(method.getModifiers()));
        hold(method.getName() + " has a name of its own", !names.contains(method.getName()));
      }
    }
    hold("the methods are the document's", found.equals(new TreeSet<>(FACE)));
    hold("the class is final", Modifier.isFinal(TannerBunting.class.getModifiers()));
    hold("one constructor", TannerBunting.class.getDeclaredConstructors().length == 1);
    hold("it is public", Modifier.isPublic(TannerBunting.class.getDeclaredConstructors()[0].getModifiers()));
    for (Field field : TannerBunting.class.getDeclaredFields()) {
      boolean none = field.getName().equals("NONE");
      hold(field.getName() + " is private, or NONE", none != Modifier.isPrivate(field.getModifiers()));
      hold(field.getName() + " is final, if static",
          !Modifier.isStatic(field.getModifiers()) || Modifier.isFinal(field.getModifiers()));
    }
  }

  /** The document's own list of the face, so that ours can't stray from it. */
  private static void document() throws IOException {
    Set<String> told = new TreeSet<>();
    for (String line : Files.readAllLines(Path.of("../shared/DOC.md"))) {
      Matcher method = TOLD.matcher(line);
      if (method.matches()) {
        String takes = method.group(2);
        told.add(method.group(1) + "/" + (takes.isEmpty() ? 0 : takes.split(",").length));
      }
    }
    hold("the methods tested are those that the document tells", told.equals(new TreeSet<>(FACE)));
    hold("NONE is -1", TannerBunting.NONE == -1);
  }

  private static void inside() {
    Class<?>[] classes = TannerBunting.class.getDeclaredClasses();
    hold("some twelve classes", classes.length <= 12);
    for (Class<?> one : classes) {
      hold(one.getName() + " is static", Modifier.isStatic(one.getModifiers()));
      hold(one.getName() + " is private", Modifier.isPrivate(one.getModifiers()));
      long fields = Arrays.stream(one.getDeclaredFields()).filter(f -> !Modifier.isStatic(f.getModifiers())).count();
      hold(one.getName() + " has some twenty fields", fields <= 20);
      for (Method method : one.getDeclaredMethods()) {
        hold(method.getName() + " takes seven at most", method.getParameterCount() <= 7);
        hold(method.getName() + " of " + one.getName() + " is none of the face",
            FACE.stream().noneMatch(f -> f.startsWith(method.getName() + "/")));
      }
    }
  }

  private static void words() throws IOException {
    int length = 0;
    for (String line : Files.readAllLines(Path.of("src/main/java/TannerBunting.java"))) {
      String code = line.replaceAll("\"[^\"]*\"", "").replaceAll("//.*|^ *\\*.*|/\\*.*", "");
      for (String word : RULED_OUT) {
        boolean there = word.matches("[a-z]+") ? code.matches(".*\\b" + word + "\\b.*") : code.contains(word);
        hold("no " + word + " in: " + line, !there || line.equals("import java.util.Arrays;"));
      }
      length = code.matches("  (  )?[a-zA-Z].*\\{") ? 0 : length + 1;
      boolean ends = code.equals("  }") || code.equals("    }");
      hold("a method of some sixty lines at: " + line, !ends || length <= 60 || code.equals("  }"));
    }
  }

  public static void main(String[] args) throws IOException {
    face();
    document();
    inside();
    words();
    System.out.println(wrong == 0 ? "the face is as told" : wrong + " are not so");
    if (wrong != 0) {
      System.exit(1);
    }
  }
}

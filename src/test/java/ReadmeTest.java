import java.io.IOException;
import java.lang.reflect.Method;
import java.lang.reflect.Modifier;
import java.net.URL;
import java.net.URLClassLoader;
import java.nio.file.DirectoryStream;
import java.nio.file.Files;
import java.nio.file.Path;
import java.util.ArrayList;
import java.util.List;
import java.util.Set;
import java.util.TreeSet;
import java.util.regex.Matcher;
import java.util.regex.Pattern;
import javax.tools.ToolProvider;

/**
 * README.md's blocks of Java, compiled and run as they stand there. A block that begins with "static" is a method; each
 * other one is run by itself, and each of its rows that begins with "x." is a call with its answer behind "//".
 */
public final class ReadmeTest {
  private static final Path README = Path.of("README.md");
  private static final Pattern CALL = Pattern.compile("(x\\.(\\w+)\\(.*\\));\\s*// (NONE|-?\\d+)(: .*)?");

  private static final StringBuilder methods = new StringBuilder();
  private static final StringBuilder blocks = new StringBuilder();
  private static final StringBuilder all = new StringBuilder();
  private static final List<String> calls = new ArrayList<>();
  private static final List<Integer> told = new ArrayList<>();
  private static final Set<String> shown = new TreeSet<>();
  private static int wrong = 0;

  private static void hold(String what, boolean holds) {
    if (!holds) {
      wrong++;
      System.out.println("not so: " + what);
    }
  }

  private static void readBlocks(List<String> rows) {
    boolean inside = false;
    boolean method = false;
    int made = 0;
    for (int i = 0; i < rows.size(); i++) {
      String row = rows.get(i);
      if (!inside && row.equals("```java")) {
        inside = true;
        method = i + 1 < rows.size() && rows.get(i + 1).startsWith("static ");
        if (!method) {
          blocks.append("static void block").append(made).append("(int[] got) {\n");
          all.append("block").append(made).append("(got);\n");
          made++;
        }
      } else if (inside && row.equals("```")) {
        blocks.append(method ? "" : "}\n");
        inside = false;
      } else if (inside && method) {
        methods.append(row).append('\n');
      } else if (inside) {
        readRow(i + 1, row);
      }
    }
    hold("each block has an end", !inside);
  }

  private static void readRow(int number, String row) {
    Matcher call = CALL.matcher(row);
    if (call.matches()) {
      blocks.append("got[").append(calls.size()).append("] = ").append(call.group(1)).append(";\n");
      calls.add("README.md, row " + number + ": " + call.group(1));
      told.add(call.group(3).equals("NONE") ? TannerBunting.NONE : Integer.parseInt(call.group(3)));
      shown.add(call.group(2));
    } else {
      hold("row " + number + " tells what its call answers: " + row, !row.contains("x."));
      blocks.append(row).append('\n');
    }
  }

  /** What the calls answer, in their order; null if the blocks don't compile. */
  private static int[] answers() throws IOException, ReflectiveOperationException {
    Path folder = Files.createTempDirectory("readme");
    Path source = folder.resolve("ReadmeCalls.java");
    Path compiled = folder.resolve("ReadmeCalls.class");
    try {
      Files.writeString(source, "public final class ReadmeCalls {\n" + methods + blocks
          + "public static void all(int[] got) {\n" + all + "}\n}\n");
      int fault = ToolProvider.getSystemJavaCompiler().run(null, null, null, "-proc:none",
          "-cp", System.getProperty("java.class.path"), "-d", folder.toString(), source.toString());
      if (fault != 0) {
        return null;
      }
      int[] got = new int[calls.size()];
      try (URLClassLoader loader = new URLClassLoader(new URL[] {folder.toUri().toURL()})) {
        loader.loadClass("ReadmeCalls").getMethod("all", int[].class).invoke(null, (Object) got);
      }
      return got;
    } finally {
      Files.deleteIfExists(compiled);
      Files.deleteIfExists(source);
      Files.deleteIfExists(folder);
    }
  }

  private static void compare() throws IOException, ReflectiveOperationException {
    int[] got = answers();
    hold("the blocks compile", got != null);
    for (int i = 0; got != null && i < got.length; i++) {
      if (got[i] != told.get(i)) {
        wrong++;
        System.out.println(calls.get(i) + " answered " + got[i] + ", told is " + told.get(i));
      }
    }
  }

  private static void everyMethodIsShown() {
    for (Method method : TannerBunting.class.getDeclaredMethods()) {
      boolean face = Modifier.isPublic(method.getModifiers());
      hold(method.getName() + " is shown with an answer", !face || shown.contains(method.getName()));
    }
  }

  private static void everyTestIsNamed(String text) throws IOException {
    try (DirectoryStream<Path> tests = Files.newDirectoryStream(Path.of("src/test/java"), "*Test.java")) {
      for (Path test : tests) {
        String name = test.getFileName().toString().replace(".java", "");
        hold(name + " is named", text.contains("`" + name + "`"));
      }
    }
    hold("it says how all tests are run", text.contains("`.ci/run`"));
  }

  public static void main(String[] args) throws IOException, ReflectiveOperationException {
    readBlocks(Files.readAllLines(README));
    compare();
    everyMethodIsShown();
    everyTestIsNamed(Files.readString(README));
    System.out.println(calls.size() + " calls of README.md, " + wrong + " are not so");
    if (wrong != 0 || calls.isEmpty()) {
      System.exit(1);
    }
  }
}

import java.io.IOException;
import java.nio.file.Files;
import java.nio.file.Path;
import java.util.Set;
import java.util.TreeSet;

/** All sentences of the document that are tried, by their promises. */
final class Edges {
  private final String document;
  private final Set<Integer> promises = new TreeSet<>();
  private final Set<String> sentences = new TreeSet<>();
  private int wrong = 0;
  private int done = 0;

  Edges() throws IOException {
    document = Files.readString(Path.of("../shared/DOC.md"));
  }

  /** A test of its own for a sentence, told in the document's words. */
  Edge at(int promise, String sentence) {
    String named = promise + ": " + sentence;
    if (!document.contains(sentence)) {
      due(named, "stands in the document", 0, 1);
    }
    if (!sentences.add(named)) {
      due(named, "has one test", 2, 1);
    }
    promises.add(promise);
    return new Edge(this, named);
  }

  void due(String sentence, String what, int got, int want) {
    done++;
    if (got != want) {
      wrong++;
      System.out.println("promise " + sentence + "\n  " + what + " answered " + got + ", due is " + want);
    }
  }

  void finish() {
    for (int promise = 1; promise <= 38; promise++) {
      due(promise + "", "has a test", promises.contains(promise) ? 1 : 0, 1);
    }
    System.out.println(sentences.size() + " sentences, " + done + " answers, " + wrong + " of them wrong");
    if (wrong != 0) {
      System.exit(1);
    }
  }
}

import java.io.IOException;
import java.nio.file.Files;
import java.nio.file.Path;
import java.util.Arrays;
import java.util.List;
import java.util.Set;
import java.util.TreeSet;

/** Tells the words of the document that no test has named by Due.sentence. */
public final class Gaps {
  // FaceTest holds to the whole public face; "Not promised" asks for nothing.
  private static final Set<String> WITHOUT_SENTENCES =
      Set.of("", "TypeWheelTelegraph", "The public face", "Not promised");

  /** The argument is the file into which the tests wrote what they named. */
  public static void main(String[] args) throws IOException {
    List<String> cited = Files.readAllLines(Path.of(args[0]));
    int gaps = 0;
    for (String section : new TreeSet<>(Document.sectionNames())) {
      if (!WITHOUT_SENTENCES.contains(section)) {
        gaps += gapsIn(section, cited);
      }
    }
    System.out.println("Gaps: " + gaps + " places of the document that no test names");
    if (gaps > 0) {
      System.exit(1);
    }
  }

  private static int gapsIn(String section, List<String> cited) {
    String text = Document.text(section);
    boolean[] covered = coveredBy(section, cited);
    int gaps = 0;
    int from = 0;
    for (int at = 0; at <= covered.length; at++) {
      if (at == covered.length || covered[at]) {
        if (isSentence(text.substring(from, at))) {
          System.out.println("[" + section + "] no test names: " + text.substring(from, at).trim());
          gaps++;
        }
        from = at + 1;
      }
    }
    return gaps;
  }

  private static boolean[] coveredBy(String section, List<String> cited) {
    String text = Document.text(section);
    boolean[] covered = new boolean[text.length()];
    for (String line : cited) {
      String words = line.substring(line.indexOf('\t') + 1);
      if (line.equals(section + "\t" + words)) {
        for (int at = text.indexOf(words); at >= 0; at = text.indexOf(words, at + 1)) {
          Arrays.fill(covered, at, at + words.length(), true);
        }
      }
    }
    return covered;
  }

  /** A promise's signature (FaceTest holds to it) and the name of a group are no sentences. */
  private static boolean isSentence(String words) {
    String rest = words.trim().replaceAll("^`[^`]+`", "").replaceAll("---- [a-z ]+$", "");
    return rest.matches(".*\\w.*");
  }
}

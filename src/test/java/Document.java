import static java.nio.file.StandardOpenOption.APPEND;
import static java.nio.file.StandardOpenOption.CREATE;

import java.io.IOException;
import java.io.UncheckedIOException;
import java.nio.file.Files;
import java.nio.file.Path;
import java.util.HashMap;
import java.util.Map;
import java.util.Set;
import java.util.TreeSet;

/** The sections of the document, so that a test can name the very sentence that it holds to. */
final class Document {
  private static final Path PATH = Path.of("../shared/DOC.md");
  private static final String CITED = System.getProperty("cited", "");
  private static final Map<String, String> SECTIONS = sections();

  private Document() {}

  /** A section is a promise ("Promise 39") or a part of the description ("ONE TICK"). */
  static boolean says(String section, String words) {
    return text(section).contains(words);
  }

  /** Writes down that a test holds to these words, if the run was given a file for it. */
  static void cite(String section, String words) {
    if (!CITED.isEmpty()) {
      try {
        Files.writeString(Path.of(CITED), section + "\t" + words + "\n", CREATE, APPEND);
      } catch (IOException e) {
        throw new UncheckedIOException(e);
      }
    }
  }

  static String text(String section) {
    return SECTIONS.getOrDefault(section, "");
  }

  static Set<String> sectionNames() {
    return SECTIONS.keySet();
  }

  /** The names of the methods of the face that have this parameter. */
  static Set<String> methodsWith(String parameter) {
    Set<String> names = new TreeSet<>();
    for (String line : lines()) {
      if (line.startsWith("    public ") && line.contains(parameter)) {
        names.add(line.replaceAll("\\(.*", "").replaceAll(".* ", ""));
      }
    }
    return names;
  }

  private static Map<String, String> sections() {
    Map<String, String> sections = new HashMap<>();
    String section = "";
    for (String line : lines()) {
      if (line.startsWith("#") || line.matches("[A-Z][A-Z ]+")) {
        section = line.replaceAll("^#+ |:.*", "");
      } else {
        sections.merge(section, line.trim(), (text, more) -> text + " " + more);
      }
    }
    return sections;
  }

  private static Iterable<String> lines() {
    try {
      return Files.readAllLines(PATH);
    } catch (IOException e) {
      throw new UncheckedIOException(e);
    }
  }
}

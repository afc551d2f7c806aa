import java.io.IOException;
import java.nio.file.Files;
import java.nio.file.Path;
import java.util.List;
import java.util.regex.Matcher;
import java.util.regex.Pattern;

/** What README.md says is true: each call of its run answers as it is written there. */
public final class ReadmeTest {
  private static final Pattern CALL =
      Pattern.compile("x\\.(\\w+)\\(([^()]*)\\);(?: *// (throws \\w+|'.'|[-.0-9]+)(?:: .*)?)?");
  private static final Pattern PATH = Pattern.compile("`((?:\\.\\./|\\.ci/|src/)[^`*]*)`");

  public static void main(String[] args) throws IOException {
    List<String> lines = Files.readAllLines(Path.of("README.md"));
    run(lines);
    paths(String.join("\n", lines));
    Due.end("ReadmeTest");
  }

  private static void run(List<String> lines) {
    TypeWheelTelegraph x = new TypeWheelTelegraph();
    int calls = 0;
    for (String line : lines) {
      if (line.startsWith("x.")) {
        Matcher call = CALL.matcher(line);
        Due.equal("a call is written in README: " + line, call.matches(), true);
        Due.equal(line, Calls.ask(x, written(call)), answer(call.group(3)));
        calls++;
      }
    }
    Due.equal("README has a run of calls (" + calls + ")", calls > 20, true);
  }

  private static String written(Matcher call) {
    StringBuilder words = new StringBuilder(call.group(1));
    for (String argument : call.group(2).split(", ")) {
      if (!argument.isEmpty()) {
        words.append(' ').append(Integer.decode(argument));
      }
    }
    return words.toString();
  }

  /** The answer as Calls tells it; of a call without a comment there is none. */
  private static String answer(String comment) {
    if (comment == null) {
      return "null";
    }
    return comment.startsWith("'")
        ? String.valueOf((int) comment.charAt(1))
        : comment.replace("throws ", "throws.");
  }

  private static void paths(String text) {
    Matcher path = PATH.matcher(text);
    while (path.find()) {
      Due.equal(path.group(1) + " is there", Files.exists(Path.of(path.group(1))), true);
    }
  }
}

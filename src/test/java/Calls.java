import java.lang.reflect.InvocationTargetException;
import java.lang.reflect.Method;
import java.nio.charset.StandardCharsets;
import java.util.Arrays;
import java.util.HashMap;
import java.util.Map;

/** Calls by name on a telegraph or on the reference, so that both can be asked the same. */
final class Calls {
  private static final Map<String, Method> METHODS = new HashMap<>();

  private Calls() {}

  /** The answer as a text; "throws.Name" for an exception. */
  static String answer(Object target, String name, Object... arguments) {
    try {
      Object result = method(target, name).invoke(target, arguments);
      return result instanceof Character c ? String.valueOf((int) c) : String.valueOf(result);
    } catch (InvocationTargetException e) {
      return "throws." + e.getCause().getClass().getSimpleName();
    } catch (IllegalAccessException e) {
      throw new IllegalStateException(e);
    }
  }

  /** A call written as its name and its arguments, with blanks between them. */
  static String ask(Object target, String call) {
    String[] words = call.split(" ");
    Object[] arguments = new Object[words.length - 1];
    for (int i = 1; i < words.length; i++) {
      boolean isTruth = words[i].equals("true") || words[i].equals("false");
      arguments[i - 1] = isTruth ? (Object) words[i].equals("true") : Integer.valueOf(words[i]);
    }
    return answer(target, words[0], arguments);
  }

  private static Method method(Object target, String name) {
    return METHODS.computeIfAbsent(
        target.getClass().getName() + "." + name, key -> find(target.getClass(), name));
  }

  private static Method find(Class<?> type, String name) {
    return Arrays.stream(type.getMethods())
        .filter(method -> method.getName().equals(name))
        .findFirst()
        .orElseThrow();
  }

  /** Puts a text into the input buffer, behind what stands there; at most 600 bytes in all. */
  static void put(Object target, String text) {
    byte[] bytes = text.getBytes(StandardCharsets.ISO_8859_1);
    int length = Integer.parseInt(answer(target, "append", 0, 0, 0, 0, 0)) - 20;
    answer(target, "truncate", length);
    for (int from = 0; from < bytes.length; from += 20) {
      byte[] part = Arrays.copyOf(Arrays.copyOfRange(bytes, from, from + 20), 20);
      Object[] words = new Object[5];
      for (int i = 0; i < 5; i++) {
        words[i] = java.nio.ByteBuffer.wrap(part).getInt(4 * i);
      }
      answer(target, "append", words);
    }
    answer(target, "truncate", length + bytes.length);
  }

  /** All that the observers tell of a telegraph's state, but for the costly trials. */
  static String watch(Object target) {
    StringBuilder seen = new StringBuilder();
    for (String name :
        new String[] {
          "errorOffset", "positions", "time", "lead", "sender", "isWaiting", "sentOfLine",
          "repetition", "underWay", "nextPulseIn", "silence", "bufferLength", "pulses",
          "lostPulses", "eventCount"
        }) {
      note(seen, target, name);
    }
    for (int office = 0; office < 2; office++) {
      for (String name :
          new String[] {
            "phase", "rate", "facing", "lineCount", "linesDone", "slowestLine", "receivedLength",
            "prints", "misprints", "worstOffset", "meanOffset"
          }) {
        note(seen, target, name, office);
      }
      watchLines(seen, target, office);
      noteAll(seen, target, "receivedCharacter", office);
    }
    noteAll(seen, target, "bufferCharacter");
    noteAll(seen, target, "formattedCharacter");
    int events = Integer.parseInt(answer(target, "eventCount"));
    for (int i = 0; i < events; i++) {
      for (int what = 0; what < 3; what++) {
        note(seen, target, "event", i, what);
      }
    }
    return seen.toString();
  }

  private static void watchLines(StringBuilder seen, Object target, int office) {
    int lines = Integer.parseInt(answer(target, "lineCount", office));
    for (int line = 0; line < lines; line++) {
      note(seen, target, "lineLength", office, line);
      note(seen, target, "pulsesOf", office, line);
      note(seen, target, "ticksFor", office, line);
      noteAll(seen, target, "pulseOf", office, line);
    }
  }

  private static void note(StringBuilder seen, Object target, String name, Object... arguments) {
    seen.append(name).append(Arrays.toString(arguments)).append('=');
    seen.append(answer(target, name, arguments)).append('\n');
  }

  /** Notes the answers for the indices from 0 on, up to the first that throws. */
  private static void noteAll(StringBuilder seen, Object target, String name, Object... before) {
    seen.append(name).append(Arrays.toString(before)).append('=');
    Object[] arguments = Arrays.copyOf(before, before.length + 1);
    String answer = "";
    for (int i = 0; !answer.startsWith("throws"); i++) {
      arguments[before.length] = i;
      answer = answer(target, name, arguments);
      seen.append(answer).append(' ');
    }
    seen.append('\n');
  }
}

import java.io.IOException;
import java.lang.reflect.Constructor;
import java.lang.reflect.Field;
import java.lang.reflect.Method;
import java.lang.reflect.Modifier;
import java.nio.file.Files;
import java.nio.file.Path;
import java.util.Arrays;
import java.util.List;
import java.util.Set;
import java.util.TreeSet;
import java.util.stream.Collectors;

/** The class has the face that the document writes out, and no other member than private ones. */
public final class FaceTest {
  public static void main(String[] args) throws IOException {
    Due.equal("the public face", face(), documentedFace());
    Due.equal("the members that are not private", openMembers(), "[]");
    Due.equal("the private methods named like public ones", sharedNames(), "[]");
    Due.equal("public and final", TypeWheelTelegraph.class.getModifiers() & 17, 17);
    Due.equal("NONE", TypeWheelTelegraph.NONE, -1);
    signatures();
    Due.end("FaceTest");
  }

  private static void signatures() throws IOException {
    Due.sentence(
        "ACTIONS AND EXCEPTIONS",
        "The constructor and the methods follow, a promise each: the signature, then what it"
            + " does.");
    List<String> lines = Files.readAllLines(Path.of("../shared/DOC.md"));
    Set<String> promised =
        lines.stream()
            .filter(line -> line.matches("`[^`]+`"))
            .map(line -> "public " + line.replace("`", "") + ";")
            .map(FaceTest::withoutNames)
            .collect(Collectors.toCollection(TreeSet::new));
    promised.add("public static final int NONE;");
    Due.equal("the signatures of the promises", promised, face());
    Due.equal("their number", promised.size(), 54 + 1);
  }

  private static String withoutNames(String signature) {
    return signature.replaceAll(" [a-z]\\w*([,)])", "$1");
  }

  private static Set<String> documentedFace() throws IOException {
    List<String> lines = Files.readAllLines(Path.of("../shared/DOC.md"));
    return lines.stream()
        .filter(line -> line.startsWith("    public "))
        .map(line -> withoutNames(line.trim()).replace(" = -1", ""))
        .collect(Collectors.toCollection(TreeSet::new));
  }

  private static Set<String> face() {
    Set<String> face = new TreeSet<>();
    for (Field field : TypeWheelTelegraph.class.getFields()) {
      face.add("public static final " + field.getType() + " " + field.getName() + ";");
    }
    for (Constructor<?> made : TypeWheelTelegraph.class.getConstructors()) {
      face.add("public TypeWheelTelegraph(" + names(made.getParameterTypes()) + ");");
    }
    for (Method method : TypeWheelTelegraph.class.getDeclaredMethods()) {
      if (Modifier.isPublic(method.getModifiers())) {
        String thrown = names(method.getExceptionTypes());
        face.add(
            "public " + method.getReturnType() + " " + method.getName()
                + "(" + names(method.getParameterTypes()) + ")"
                + (thrown.isEmpty() ? "" : " throws " + thrown) + ";");
      }
    }
    return face;
  }

  private static String names(Class<?>[] types) {
    return Arrays.stream(types).map(Class::getSimpleName).collect(Collectors.joining(", "));
  }

  private static Set<String> openMembers() {
    Set<String> open = new TreeSet<>();
    for (Field field : TypeWheelTelegraph.class.getDeclaredFields()) {
      if (!Modifier.isPrivate(field.getModifiers()) && !field.getName().equals("NONE")) {
        open.add(field.getName());
      }
    }
    for (Method method : TypeWheelTelegraph.class.getDeclaredMethods()) {
      int modifiers = method.getModifiers();
      if (!Modifier.isPrivate(modifiers) && !Modifier.isPublic(modifiers)) {
        open.add(method.getName());
      }
    }
    return open;
  }

  private static Set<String> sharedNames() {
    Set<String> open = new TreeSet<>();
    Set<String> hidden = new TreeSet<>();
    for (Method method : TypeWheelTelegraph.class.getDeclaredMethods()) {
      (Modifier.isPublic(method.getModifiers()) ? open : hidden).add(method.getName());
    }
    for (Class<?> inside : TypeWheelTelegraph.class.getDeclaredClasses()) {
      for (Method method : inside.getDeclaredMethods()) {
        hidden.add(method.getName());
      }
    }
    open.retainAll(hidden);
    return open;
  }
}

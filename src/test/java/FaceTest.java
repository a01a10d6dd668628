import java.lang.reflect.Constructor;
import java.lang.reflect.Field;
import java.lang.reflect.Method;
import java.lang.reflect.Modifier;
import java.nio.file.Files;
import java.nio.file.Path;
import java.util.ArrayList;
import java.util.Arrays;
import java.util.List;
import java.util.Set;
import java.util.TreeSet;
import java.util.regex.Matcher;
import java.util.regex.Pattern;

/** The public face of the class is the document's, as the document itself writes it, and nothing more. */
public final class FaceTest extends Calls {
  private static final Class<?> CLASS = InclusionProver.class;
  private static final int PROMISES = 25;

  public static void main(String[] args) throws Exception {
    String document = Files.readString(Path.of("../shared/DOC.md"));
    List<String> face = faceOf(document);
    theClass(face);
    members(face);
    nothingMore();
    none(document);
    promises(document, Files.readString(Path.of("src/test/java/PromiseTest.java")));
    end();
  }

  /** The lines of the java block under "The public face". */
  private static List<String> faceOf(String document) {
    Matcher block = Pattern.compile("(?s)## The public face\\s+```java\n(.*?)```").matcher(document);
    List<String> lines = new ArrayList<>();
    if (block.find()) {
      for (String line : block.group(1).split("\n")) {
        lines.add(line.trim());
      }
    }
    return lines;
  }

  private static void theClass(List<String> face) {
    says("the public face: the class");
    due("its first line", face.isEmpty() ? "" : face.get(0), "public final class InclusionProver {");
    due("its modifiers", Modifier.toString(CLASS.getModifiers()), "public final");
    due("its name, without a package", CLASS.getName(), "InclusionProver");
    due("what it comes from", CLASS.getSuperclass().getName(), "java.lang.Object");
    due("what it implements", CLASS.getInterfaces().length, 0);
    due("its own kinds", CLASS.getTypeParameters().length, 0);
  }

  private static void members(List<String> face) throws Exception {
    says("the public face: its members");
    Set<String> want = new TreeSet<>();
    for (String line : face) {
      if (line.endsWith(";")) {
        want.add(bare(line));
      }
    }
    due("members that the document names", want.size(), 26);
    due("members that there are", String.join("\n", toldMembers()), String.join("\n", want));
  }

  /** Without the names of parameters: they are no part of what a caller sees. */
  private static String bare(String line) {
    return line.replaceAll(" \\w+(?=[,)])", "").replace(", ", ",");
  }

  private static Set<String> toldMembers() throws Exception {
    Set<String> told = new TreeSet<>();
    for (Field f : CLASS.getDeclaredFields()) {
      if (Modifier.isPublic(f.getModifiers())) {
        String value = Modifier.isStatic(f.getModifiers()) ? " = " + f.get(null) : "";
        told.add(Modifier.toString(f.getModifiers()) + " " + f.getType() + " " + f.getName() + value + ";");
      }
    }
    for (Constructor<?> c : CLASS.getDeclaredConstructors()) {
      told.add(Modifier.toString(c.getModifiers()) + " " + c.getName() + types(c.getParameterTypes())
          + declared(c.getExceptionTypes()));
    }
    for (Method m : CLASS.getDeclaredMethods()) {
      if (Modifier.isPublic(m.getModifiers())) {
        told.add(Modifier.toString(m.getModifiers()) + " " + m.getReturnType() + " " + m.getName()
            + types(m.getParameterTypes()) + declared(m.getExceptionTypes()));
      }
    }
    return told;
  }

  private static String types(Class<?>[] parameters) {
    List<String> names = new ArrayList<>();
    for (Class<?> type : parameters) {
      names.add(type.getSimpleName());
    }
    return "(" + String.join(",", names) + ")";
  }

  private static String declared(Class<?>[] exceptions) {
    return exceptions.length == 0 ? ";" : " throws " + Arrays.toString(exceptions) + ";";
  }

  /** What is not public is private, but for the classes inside, which may be seen in the package. */
  private static void nothingMore() {
    says("the public face: no other member can be seen");
    for (Field f : CLASS.getDeclaredFields()) {
      seenOrPrivate(f.getName(), f.getModifiers());
    }
    for (Method m : CLASS.getDeclaredMethods()) {
      if (!m.isSynthetic()) {
        seenOrPrivate(m.getName(), m.getModifiers());
      }
    }
    for (Class<?> inside : CLASS.getDeclaredClasses()) {
      int of = inside.getModifiers();
      due(inside.getSimpleName() + " is static", Modifier.isStatic(of), true);
      due(inside.getSimpleName() + " is seen outside", Modifier.isPublic(of) || Modifier.isProtected(of), false);
    }
  }

  private static void seenOrPrivate(String name, int modifiers) {
    due(name + " is public or private", Modifier.isPublic(modifiers) || Modifier.isPrivate(modifiers), true);
  }

  /** A label of a switch must be known when the test is compiled: so NONE is a constant. */
  private static void none(String document) {
    says("`NONE = -1`: There is none.");
    due("the document's words", document.contains("`NONE = -1`: There is none."), true);
    due("NONE", InclusionProver.NONE, -1);
    switch (new InclusionProver().cut()) {
      case InclusionProver.NONE:
        break;
      default:
        due("a call that answers NONE", "another answer", "NONE");
    }
  }

  private static void promises(String document, String tests) {
    says("each promise of the document has its tests");
    Matcher promise = Pattern.compile("(?m)^## Promise (\\d+): (.+)$").matcher(document);
    int found = 0;
    while (promise.find()) {
      found++;
      due("the number of " + promise.group(2), promise.group(1), String.valueOf(found));
      due("tests of promise " + found, tests.contains("says(\"promise " + found + "\")"), true);
    }
    due("promises of the document", found, PROMISES);
  }
}

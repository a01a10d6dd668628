import java.lang.management.ManagementFactory;
import java.lang.reflect.Array;
import java.lang.reflect.Field;
import java.lang.reflect.Method;
import java.lang.reflect.Modifier;
import java.nio.file.Files;
import java.nio.file.Path;
import java.util.ArrayDeque;
import java.util.Collections;
import java.util.IdentityHashMap;
import java.util.List;
import java.util.Set;
import java.util.TreeSet;
import java.util.function.Consumer;
import java.util.regex.Matcher;
import java.util.regex.Pattern;

/** What can be told of LANGUAGE.md's rules, and of the room that calls take, without a reader. */
public final class RulesTest {
  private static int wrong = 0;

  public static void main(String[] args) throws Exception {
    classes();
    source(Files.readString(Path.of("src/main/java/InclusionProver.java")));
    room();
    System.out.println(wrong == 0 ? "the rules are kept" : wrong + " rules are broken");
    if (wrong != 0) {
      System.exit(1);
    }
  }

  private static void due(String what, boolean holds) {
    if (!holds) {
      wrong++;
      System.out.println("not so: " + what);
    }
  }

  /** The face itself is FaceTest's. */
  private static void classes() {
    Class<?>[] inside = InclusionProver.class.getDeclaredClasses();
    due("at most twelve classes", inside.length <= 11);
    for (Class<?> c : inside) {
      nested(c, publicMethods());
    }
  }

  private static Set<String> publicMethods() {
    Set<String> names = new TreeSet<>();
    for (Method m : InclusionProver.class.getDeclaredMethods()) {
      if (Modifier.isPublic(m.getModifiers())) {
        names.add(m.getName());
      }
    }
    return names;
  }

  private static void nested(Class<?> inside, Set<String> names) {
    String name = inside.getSimpleName();
    due(name + " is static, not public",
        Modifier.isStatic(inside.getModifiers()) && !Modifier.isPublic(inside.getModifiers()));
    int fields = 0;
    for (Field f : inside.getDeclaredFields()) {
      boolean isStatic = Modifier.isStatic(f.getModifiers());
      due(name + "." + f.getName() + " is final", !isStatic || Modifier.isFinal(f.getModifiers()));
      fields += isStatic ? 0 : 1;
    }
    due(name + " has at most twenty fields", fields <= 20);
    for (Method m : inside.getDeclaredMethods()) {
      due(name + "." + m.getName() + " has a name of its own", !names.contains(m.getName()));
      due(name + "." + m.getName() + " takes at most seven", m.getParameterCount() <= 7);
    }
  }

  private static void source(String text) {
    String bare = text.replaceAll("(?s)/\\*.*?\\*/", "").replaceAll("//[^\n]*", "");
    for (String word : new String[] {"throw", "throws", "try", "catch", "finally", "synchronized", "assert",
        "protected", "volatile", "native", "transient", "package", "Object", "System\\.out", "Exception",
        "hashCode", "toString", "double", "float", "default ->", "yield", "var", "Exact"}) {
      due("no " + word, !Pattern.compile("\\b" + word + "\\b").matcher(bare).find());
    }
    due("no lambda, no method reference", !bare.contains("->") && !bare.contains("::"));
    due("no doubled rows of rows", !bare.contains("[][]"));
    Matcher imports = Pattern.compile("import ([^;]+);").matcher(bare);
    while (imports.find()) {
      due("import " + imports.group(1), imports.group(1).equals("java.util.Arrays"));
    }
    Matcher library = Pattern.compile("\\b(Arrays|System|Math|Integer|Long)\\.(\\w+)").matcher(bare);
    Set<String> allowed = Set.of("Arrays.fill", "System.arraycopy", "Math.min", "Math.max");
    while (library.find()) {
      due("library: " + library.group(), allowed.contains(library.group()));
    }
    due("signs 1 to 127 alone", text.chars().allMatch(ch -> ch > 0 && ch < 128));
    methodsOf(bare);
  }

  private static final Pattern HEADER =
      Pattern.compile("( {2,4})(?:[\\w\\[\\]]+ )*(\\w+)\\([^)]*\\) \\{");
  private static final Pattern MAKES =
      Pattern.compile("\\bnew\\b|= *\\{|\"|\\bclone\\b|\\bcopyOf|\\b(Integer|List|ArrayList|StringBuilder)\\b");

  /** Methods are short, and what is made is made in constructors and where fields stand. */
  private static void methodsOf(String bare) {
    String[] lines = bare.split("\n");
    int methods = 0;
    int constructors = 0;
    for (int i = 0; i < lines.length; i++) {
      Matcher header = HEADER.matcher(lines[i]);
      if (!header.matches()) {
        continue;
      }
      int end = endOf(lines, i, header.group(1));
      String name = header.group(2);
      due(name + " is short", end - i < 60);
      if (Character.isUpperCase(name.charAt(0))) {
        constructors++;
      } else {
        methods++;
        makesNothing(name, lines, i, end);
      }
      i = end;
    }
    due("methods and constructors are seen: " + methods + ", " + constructors, methods > 120 && constructors > 6);
  }

  private static int endOf(String[] lines, int from, String indent) {
    int end = from;
    while (end < lines.length - 1 && !lines[end].equals(indent + "}")) {
      end++;
    }
    return end;
  }

  private static void makesNothing(String name, String[] lines, int from, int end) {
    for (int i = from + 1; i < end; i++) {
      due(name + " makes nothing: " + lines[i].trim(), !MAKES.matcher(lines[i]).find());
    }
  }

  private record Call(String name, Consumer<InclusionProver> on) {}

  /** The images first: so the first ones of a new object are among them. */
  private static final List<Call> CALLS = List.of(
      new Call("again(0), none yet", x -> x.again(0)),
      new Call("image(0), the first", x -> x.image(0)),
      new Call("image(1), the first", x -> x.image(1)),
      new Call("image(2)", x -> x.image(2)),
      new Call("write", x -> x.write(0x28612b62292a6100L)),
      new Call("write", x -> x.write(0x28612b6229000000L)),
      new Call("side(0)", x -> x.side(0)),
      new Call("write", x -> x.write(0x28622b61292a6100L)),
      new Call("write", x -> x.write(0x28612b6229000000L)),
      new Call("side(1)", x -> x.side(1)),
      new Call("side(2)", x -> x.side(2)),
      new Call("side(0), a fault", x -> x.side(0)),
      new Call("fault", x -> x.fault()),
      new Call("keep", x -> x.keep(0, 0)),
      new Call("keep", x -> x.keep(1, 1)),
      new Call("prove", x -> x.prove()),
      new Call("count(0)", x -> x.count(0)),
      new Call("count(5)", x -> x.count(5)),
      new Call("line", x -> x.line(0, 10)),
      new Call("alter", x -> x.alter(0, 10, 7)),
      new Call("check", x -> x.check()),
      new Call("why", x -> x.why(0)),
      new Call("image(0)", x -> x.image(0)),
      new Call("same", x -> x.same()),
      new Call("between", x -> x.between(0, 1)),
      new Call("make 0", x -> x.make(0, 0, 1, 0)),
      new Call("make 1", x -> x.make(1, 1, 0, 1)),
      new Call("make 2", x -> x.make(0, 2, 0, 1)),
      new Call("make 3", x -> x.make(1, 3, 0, 0)),
      new Call("words", x -> x.words(5, 8)),
      new Call("word", x -> x.word(0, 8, 100)),
      new Call("write", x -> x.write(0x6161616161616100L)),
      new Call("has", x -> x.has(0)),
      new Call("like", x -> x.like(0, 1)),
      new Call("apart", x -> x.apart(1)),
      new Call("shape", x -> x.shape(0, 10)),
      new Call("term", x -> x.term(0, 1, 10)),
      new Call("swap", x -> x.swap()),
      new Call("image(1)", x -> x.image(1)),
      new Call("again(0)", x -> x.again(0)),
      new Call("again(1)", x -> x.again(1)),
      new Call("cut", x -> x.cut()));

  private static final com.sun.management.ThreadMXBean THREADS =
      (com.sun.management.ThreadMXBean) ManagementFactory.getThreadMXBean();
  private static final int NEW_OBJECTS = 5;
  private static final int MOST_OBJECTS = 600_000;
  private static final int MOST_ELEMENTS = 7_300_000;

  /** No call makes an object or a row, not even the first of its kind on a new object. */
  private static void room() throws Exception {
    useAll(new InclusionProver());
    Call nothing = new Call("nothing", x -> { });
    madeBy(nothing, null);
    long least = madeBy(nothing, null);
    long[] made = new long[CALLS.size()];
    for (int i = 0; i < NEW_OBJECTS; i++) {
      InclusionProver x = new InclusionProver();
      for (int c = 0; c < made.length; c++) {
        long bytes = madeBy(CALLS.get(c), x) - least;
        made[c] = i == 0 ? bytes : Math.min(made[c], bytes);
      }
    }
    for (int c = 0; c < made.length; c++) {
      due(CALLS.get(c).name + " makes nothing, but it made " + made[c] + " bytes", made[c] <= 0);
    }
    everyMethodIsCalled();
    kept();
  }

  private static long madeBy(Call call, InclusionProver x) {
    long thread = Thread.currentThread().getId();
    long before = THREADS.getThreadAllocatedBytes(thread);
    call.on.accept(x);
    return THREADS.getThreadAllocatedBytes(thread) - before;
  }

  private static void useAll(InclusionProver x) {
    for (Call call : CALLS) {
      call.on.accept(x);
    }
  }

  private static void everyMethodIsCalled() {
    for (String name : publicMethods()) {
      due(name + " is among the calls", CALLS.stream().anyMatch(c -> c.name.split("\\W")[0].equals(name)));
    }
  }

  /** What an object holds is the same from its first call to its last, and small beside the room. */
  private static void kept() throws Exception {
    InclusionProver x = new InclusionProver();
    long[] before = countHeld(x);
    for (int i = 0; i < 512 / CALLS.size(); i++) {
      useAll(x);
    }
    long[] after = countHeld(x);
    System.out.println("an object holds " + after[0] + " objects and rows, " + after[1] + " fields and elements");
    due("calls keep nothing more", before[0] == after[0] && before[1] == after[1]);
    due("an object is small", after[0] * 20 < MOST_OBJECTS && after[1] * 20 < MOST_ELEMENTS);
  }

  /** Objects and rows, fields and elements, that can be reached. */
  private static long[] countHeld(InclusionProver x) throws Exception {
    Set<Object> seen = Collections.newSetFromMap(new IdentityHashMap<>());
    ArrayDeque<Object> open = new ArrayDeque<>(List.of(x));
    long held = 0;
    while (!open.isEmpty()) {
      Object o = open.pop();
      if (!seen.add(o)) {
        continue;
      }
      if (o.getClass().isArray()) {
        held += Array.getLength(o);
        if (o instanceof Object[] row) {
          for (Object e : row) {
            if (e != null) {
              open.push(e);
            }
          }
        }
        continue;
      }
      for (Field f : o.getClass().getDeclaredFields()) {
        if (Modifier.isStatic(f.getModifiers())) {
          continue;
        }
        held++;
        f.setAccessible(true);
        if (!f.getType().isPrimitive() && f.get(o) != null) {
          open.push(f.get(o));
        }
      }
    }
    return new long[] {seen.size(), held};
  }
}

import java.lang.management.ManagementFactory;
import java.lang.reflect.Constructor;
import java.lang.reflect.Field;
import java.lang.reflect.Method;
import java.lang.reflect.Modifier;
import java.nio.file.Files;
import java.nio.file.Path;
import java.util.ArrayList;
import java.util.List;
import java.util.Set;
import java.util.TreeSet;
import java.util.regex.Matcher;
import java.util.regex.Pattern;

/** What can be told of LANGUAGE.md's rules, and of the room that calls take, without a reader. */
public final class RulesTest {
  private static int wrong = 0;

  public static void main(String[] args) throws Exception {
    face();
    source(Files.readString(Path.of("src/main/java/InclusionProver.java")));
    room();
    System.out.println(wrong == 0 ? "the rules are kept" : wrong + " rules are broken");
    if (wrong != 0) {
      System.exit(1);
    }
  }

  private static void due(String what, boolean holds) {
    if (!holds) {
      wrong++;
      System.out.println("not so: " + what);
    }
  }

  private static final String FACE = "int write(long); int side(int); int fault(); void swap(); "
      + "boolean keep(int,int); int make(int,int,int,int); int shape(int,int); int term(int,int,int); "
      + "int like(int,int); boolean has(int); int words(int,int); int word(int,int,int); int prove(); "
      + "int apart(int); int count(int); int line(int,int); int alter(int,int,int); int cut(); "
      + "int check(); int why(int); int same(); int between(int,int); boolean image(int); "
      + "boolean again(int)";

  private static void face() throws Exception {
    Class<?> c = InclusionProver.class;
    due("a public final class", Modifier.isPublic(c.getModifiers()) && Modifier.isFinal(c.getModifiers()));
    Set<String> want = new TreeSet<>(List.of(FACE.split("; ")));
    Set<String> got = new TreeSet<>();
    Set<String> names = new TreeSet<>();
    for (Method m : c.getDeclaredMethods()) {
      if (Modifier.isPublic(m.getModifiers())) {
        got.add(told(m));
        names.add(m.getName());
      } else {
        due(m.getName() + " is private", Modifier.isPrivate(m.getModifiers()) || m.isSynthetic());
      }
    }
    due("the face's methods: " + got, got.equals(want));
    for (Field f : c.getDeclaredFields()) {
      due(f.getName() + " is private", Modifier.isPrivate(f.getModifiers()) || f.getName().equals("NONE"));
    }
    due("NONE", c.getField("NONE").getInt(null) == -1);
    Constructor<?>[] made = c.getDeclaredConstructors();
    due("one public constructor", made.length == 1 && Modifier.isPublic(made[0].getModifiers()));
    due("at most twelve classes", c.getDeclaredClasses().length <= 11);
    for (Class<?> inside : c.getDeclaredClasses()) {
      nested(inside, names);
    }
  }

  private static void nested(Class<?> inside, Set<String> names) {
    String name = inside.getSimpleName();
    due(name + " is static, not public",
        Modifier.isStatic(inside.getModifiers()) && !Modifier.isPublic(inside.getModifiers()));
    int fields = 0;
    for (Field f : inside.getDeclaredFields()) {
      boolean isStatic = Modifier.isStatic(f.getModifiers());
      due(name + "." + f.getName() + " is final", !isStatic || Modifier.isFinal(f.getModifiers()));
      fields += isStatic ? 0 : 1;
    }
    due(name + " has at most twenty fields", fields <= 20);
    for (Method m : inside.getDeclaredMethods()) {
      due(name + "." + m.getName() + " has a name of its own", !names.contains(m.getName()));
      due(name + "." + m.getName() + " takes at most seven", m.getParameterCount() <= 7);
    }
  }

  private static String told(Method m) {
    List<String> types = new ArrayList<>();
    for (Class<?> t : m.getParameterTypes()) {
      types.add(t.getSimpleName());
    }
    return m.getReturnType().getSimpleName() + " " + m.getName() + "(" + String.join(",", types) + ")";
  }

  private static void source(String text) {
    String bare = text.replaceAll("(?s)/\\*.*?\\*/", "").replaceAll("//[^\n]*", "");
    for (String word : new String[] {"throw", "throws", "try", "catch", "finally", "synchronized", "assert",
        "protected", "volatile", "native", "transient", "package", "Object", "System\\.out", "Exception",
        "hashCode", "toString", "double", "float", "default ->", "yield", "var", "Exact"}) {
      due("no " + word, !Pattern.compile("\\b" + word + "\\b").matcher(bare).find());
    }
    due("no lambda, no method reference", !bare.contains("->") && !bare.contains("::"));
    due("no doubled rows of rows", !bare.contains("[][]"));
    Matcher imports = Pattern.compile("import ([^;]+);").matcher(bare);
    while (imports.find()) {
      due("import " + imports.group(1), imports.group(1).equals("java.util.Arrays"));
    }
    Matcher library = Pattern.compile("\\b(Arrays|System|Math|Integer|Long)\\.(\\w+)").matcher(bare);
    Set<String> allowed = Set.of("Arrays.fill", "System.arraycopy", "Math.min", "Math.max");
    while (library.find()) {
      due("library: " + library.group(), allowed.contains(library.group()));
    }
    due("signs 1 to 127 alone", text.chars().allMatch(ch -> ch > 0 && ch < 128));
    shortMethods(text);
  }

  private static void shortMethods(String text) {
    String[] lines = text.split("\n");
    int from = -1;
    for (int i = 0; i < lines.length; i++) {
      if (lines[i].matches(" {2,4}[a-zA-Z].*\\) \\{")) {
        from = i;
      } else if (from >= 0 && lines[i].matches(" {2,4}\\}")) {
        due("a short method at line " + (from + 1), i - from < 60);
        from = -1;
      }
    }
  }

  /** Once both images are there, no call makes an object. */
  private static void room() {
    com.sun.management.ThreadMXBean threads =
        (com.sun.management.ThreadMXBean) ManagementFactory.getThreadMXBean();
    long thread = Thread.currentThread().getId();
    long before = threads.getThreadAllocatedBytes(thread);
    InclusionProver x = new InclusionProver();
    x.image(0);
    x.image(1);
    long made = threads.getThreadAllocatedBytes(thread) - before;
    due("an object with its images takes less than a MB: " + made, made < 1_000_000);
    useAll(x);
    long start = threads.getThreadAllocatedBytes(thread);
    for (int i = 0; i < 200; i++) {
      useAll(x);
    }
    long more = threads.getThreadAllocatedBytes(thread) - start;
    due("no call makes an object, but these made " + more + " bytes", more < 1000);
  }

  private static void useAll(InclusionProver x) {
    x.write(0x28612b62292a6100L);
    x.write(0x28612b6229000000L);
    x.side(0);
    x.write(0x28622b61292a6100L);
    x.write(0x28612b6229000000L);
    x.side(1);
    x.keep(0, 0);
    x.keep(1, 1);
    x.prove();
    x.alter(0, 10, 7);
    x.check();
    x.why(0);
    x.image(0);
    x.same();
    x.between(0, 1);
    x.make(0, 2, 0, 1);
    x.words(5, 8);
    x.word(0, 8, 100);
    x.write(0x6161616161616100L);
    x.has(0);
    x.like(0, 1);
    x.count(5);
    x.apart(1);
    x.shape(0, 10);
    x.term(0, 1, 10);
    x.swap();
    x.image(1);
    x.again(0);
    x.cut();
  }
}

import java.io.File;
import java.io.IOException;
import java.lang.reflect.Method;
import java.lang.reflect.Modifier;
import java.nio.charset.StandardCharsets;
import java.nio.file.Files;
import java.nio.file.Path;
import java.util.ArrayList;
import java.util.Comparator;
import java.util.List;
import java.util.Set;
import java.util.TreeSet;
import java.util.regex.Matcher;
import java.util.regex.Pattern;
import java.util.stream.Stream;

/** What README.md shows is run as it stands there, in a copy of the checkout, and answers as it says. */
public final class ReadmeTest extends Calls {
  private static final Pattern BLOCK = Pattern.compile("(?ms)^```(\\w+)\n(.*?)^```$");
  /** A statement, and the answer that stands ahead of the colon in the comment behind it. */
  private static final Pattern SHOWN = Pattern.compile("(\\S.*;) +// (-?\\d+|true|false): \\S.*");
  private static final Pattern CALL = Pattern.compile("\\bx\\.(\\w+)\\(");
  private static final int PROMISED_CALLS = 512;

  public static void main(String[] args) throws Exception {
    String page = Files.readString(Path.of("README.md"));
    Path copy = Files.createTempDirectory("readme");
    try {
      copySources(copy);
      program(page, copy);
      lines(page, copy);
      commands(page, copy);
    } finally {
      remove(copy);
    }
    table(page);
    end();
  }

  private static List<String> blocks(String page, String kind) {
    List<String> found = new ArrayList<>();
    Matcher block = BLOCK.matcher(page);
    while (block.find()) {
      if (block.group(1).equals(kind)) {
        found.add(block.group(2));
      }
    }
    return found;
  }

  private static boolean isProgram(String block) {
    return block.startsWith("public class Mine {");
  }

  private static void program(String page, Path copy) throws Exception {
    says("README.md, the program");
    List<String> programs = new ArrayList<>(blocks(page, "java"));
    programs.removeIf(block -> !isProgram(block));
    due("programs shown", programs.size(), 1);
    due("what it prints is shown", blocks(page, "text").size(), 1);
    Files.writeString(copy.resolve("Mine.java"), programs.get(0));
    due("what it prints", run(copy, blocks(page, "sh").get(0)), blocks(page, "text").get(0));
  }

  /** All lines are one run; each call that answers something shows its answer. */
  private static void lines(String page, Path copy) throws Exception {
    says("README.md, the calls with what they answer");
    StringBuilder body = new StringBuilder();
    Set<String> called = new TreeSet<>();
    int shown = 0;
    for (String block : blocks(page, "java")) {
      if (isProgram(block)) {
        continue;
      }
      for (String line : block.split("\n")) {
        body.append(told(line));
        shown++;
        Matcher call = CALL.matcher(line);
        while (call.find()) {
          called.add(call.group(1));
        }
      }
    }
    due("lines shown, at least as many as calls", shown > publicMethods().size(), true);
    due("calls within those promised", shown * 2 < PROMISED_CALLS, true);
    due("calls shown", called.toString(), publicMethods().toString());
    Files.writeString(copy.resolve("Shown.java"), wrapped(body.toString()));
    due("lines that answer otherwise", run(copy, "javac -cp out -d out Shown.java\njava -cp out Shown"), "");
  }

  private static Set<String> publicMethods() {
    Set<String> names = new TreeSet<>();
    for (Method m : InclusionProver.class.getDeclaredMethods()) {
      if (Modifier.isPublic(m.getModifiers())) {
        names.add(m.getName());
      }
    }
    return names;
  }

  /** A line of README.md as a statement that prints it, if it answers otherwise. */
  private static String told(String line) {
    Matcher shown = SHOWN.matcher(line);
    if (shown.matches()) {
      String call = shown.group(1).replaceAll(";$", "");
      return "due(\"" + call.replace("\"", "'") + "\", " + call + ", " + shown.group(2) + ");\n";
    }
    boolean answersNothing = line.equals("x.swap();") || line.equals("InclusionProver x = new InclusionProver();");
    due("a line without an answer: " + line, answersNothing, true);
    return line + "\n";
  }

  private static String wrapped(String body) {
    return "class Shown extends Mine {\n"
        + "static void due(String call, Object got, Object want) {\n"
        + "if (!got.equals(want)) { System.out.println(call + \" answers \" + got + \", not \" + want); }\n}\n"
        + "public static void main(String[] args) {\n" + body + "}\n}\n";
  }

  private static void commands(String page, Path copy) throws Exception {
    says("README.md, how to run the tests");
    List<String> shown = blocks(page, "sh");
    due("commands shown", shown.size(), 2);
    String printed = run(copy, shown.get(1));
    due("one test by itself", printed.matches("\\d+ answers, 0 wrong\n"), true);
    due(".ci/run is named", page.contains("`.ci/run`"), true);
    due(".ci/run can be run", Files.isExecutable(Path.of(".ci/run")), true);
  }

  /** Every test has a row, every row a test; every helper is named. */
  private static void table(String page) throws Exception {
    says("README.md, the table of tests");
    Set<String> rows = new TreeSet<>();
    Matcher row = Pattern.compile("(?m)^\\| `(\\w+)` \\|").matcher(page);
    while (row.find()) {
      rows.add(row.group(1));
    }
    Set<String> tests = new TreeSet<>();
    for (File file : new File("src/test/java").listFiles()) {
      String name = file.getName().replace(".java", "");
      if (name.endsWith("Test")) {
        tests.add(name);
      } else {
        due("the helper " + name + " is named", page.contains("`" + name + "`"), true);
      }
    }
    due("tests in the table", rows.toString(), tests.toString());
  }

  private static void copySources(Path copy) throws IOException {
    try (Stream<Path> files = Files.walk(Path.of("src"))) {
      for (Path from : files.toList()) {
        Path to = copy.resolve(from.toString());
        if (Files.isDirectory(from)) {
          Files.createDirectories(to);
        } else {
          Files.copy(from, to);
        }
      }
    }
  }

  /** What the commands print; how they ended, if not well. */
  private static String run(Path in, String commands) throws Exception {
    Process process = new ProcessBuilder("sh", "-e", "-c", commands)
        .directory(in.toFile()).redirectErrorStream(true).start();
    String printed = new String(process.getInputStream().readAllBytes(), StandardCharsets.UTF_8);
    int ended = process.waitFor();
    return ended == 0 ? printed : printed + "ended with " + ended;
  }

  private static void remove(Path directory) throws IOException {
    try (Stream<Path> files = Files.walk(directory)) {
      for (Path file : files.sorted(Comparator.reverseOrder()).toList()) {
        Files.delete(file);
      }
    }
  }
}

import java.io.File;
import java.io.IOException;
import java.lang.reflect.Method;
import java.lang.reflect.Modifier;
import java.nio.file.Files;
import java.nio.file.Path;
import java.util.ArrayList;
import java.util.List;
import java.util.Set;
import java.util.TreeSet;
import java.util.regex.Matcher;
import java.util.regex.Pattern;

/** README.md: every call that it shows answers what stands behind it; what it says of .ci/run is so. */
public final class ReadmeTest {
  private static final Pattern CALL = Pattern.compile("x\\.(\\w+)\\(([^)]*)\\); +// (-?\\d+|BAD|NO|FULL|NONE)(?![\\w-]).*");
  private static final Pattern LETTERS = Pattern.compile("for \\(char c : \"([^\"]*)\"\\.toCharArray\\(\\)\\) x\\.write\\(c\\);");
  private static final String NEW = "SnailsYear x = new SnailsYear();";
  private static int wrong = 0;

  private static void must(String what, boolean so) {
    if (!so) { wrong++; System.out.println("not so: " + what); }
  }

  private static List<String> blocks(String page, String language) {
    List<String> found = new ArrayList<>();
    Matcher block = Pattern.compile("(?s)```" + language + "\n(.*?)```").matcher(page);
    while (block.find()) found.add(block.group(1));
    return found;
  }

  private static int answer(String told) {
    switch (told) {
      case "BAD": return SnailsYear.BAD;
      case "NO": return SnailsYear.NO;
      case "FULL": return SnailsYear.FULL;
      case "NONE": return SnailsYear.NONE;
      default: return Integer.parseInt(told);
    }
  }

  private static int call(SnailsYear x, String name, String arguments) throws Exception {
    String[] told = arguments.isEmpty() ? new String[0] : arguments.split(", ");
    Class<?>[] types = new Class<?>[told.length];
    Object[] values = new Object[told.length];
    for (int i = 0; i < told.length; i++) {
      types[i] = int.class;
      values[i] = told[i].matches("'.'") ? told[i].charAt(1) : Integer.parseInt(told[i]);
    }
    return (Integer) SnailsYear.class.getMethod(name, types).invoke(x, values);
  }

  /** Runs one block; adds the names of the calls whose answers it shows. */
  private static void runBlock(String block, Set<String> shown) throws Exception {
    SnailsYear x = null;
    for (String line : block.split("\n")) {
      Matcher call = CALL.matcher(line), letters = LETTERS.matcher(line);
      if (line.equals(NEW)) {
        x = new SnailsYear();
      } else if (x == null) {
        must("a block begins with " + NEW + ": " + line, false);
      } else if (letters.matches()) {
        for (char c : letters.group(1).toCharArray()) x.write(c);
      } else if (call.matches()) {
        int got = call(x, call.group(1), call.group(2));
        must(line + " (it answers " + got + ")", got == answer(call.group(3)));
        shown.add(call.group(1));
      } else {
        must("a line is a call with its answer: " + line, false);
      }
    }
  }

  private static void use(String page) throws Exception {
    Set<String> shown = new TreeSet<>(), all = new TreeSet<>();
    for (String block : blocks(page, "java")) runBlock(block, shown);
    for (Method m : SnailsYear.class.getDeclaredMethods()) if (Modifier.isPublic(m.getModifiers())) all.add(m.getName());
    must("every call is shown: " + shown, shown.equals(all));
    for (String name : new String[] {"BAD", "NO", "FULL", "NONE"}) must(name + " is told", page.contains("`" + name + "` (" + answer(name) + ")"));
  }

  private static void listOfTests(String page) {
    Set<String> told = new TreeSet<>(), there = new TreeSet<>();
    Matcher item = Pattern.compile("(?m)^- `(\\w+)`:").matcher(page);
    while (item.find()) told.add(item.group(1) + ".java");
    for (String name : new File("src/test/java").list()) there.add(name);
    must("the tests are those that are told: " + there, told.equals(there));
  }

  /** The two lines for one test are those of .ci/run, its names put in. */
  private static void oneTest(String page, String script) {
    String plain = script.replace("$out/$name", "/tmp/EdgesTest").replace("$name", "EdgesTest").replace("$1", "src/test/java/EdgesTest.java").replace("\"", "");
    List<String> shown = blocks(page, "sh");
    must("two blocks for the shell", shown.size() == 2);
    must("the first is the whole script", !shown.isEmpty() && shown.get(0).equals(".ci/run\n"));
    must("the script can be run so", Files.isExecutable(Path.of(".ci/run")));
    int commands = 0;
    for (String line : shown.get(shown.size() - 1).split("\n")) {
      commands++;
      must(".ci/run has: " + line, plain.contains(" ! " + line + "; then"));
    }
    must("javac and java are shown", commands == 2);
  }

  private static void put(Path root, String file, String text) throws IOException {
    Path path = root.resolve(file);
    Files.createDirectories(path.getParent());
    Files.writeString(path, text);
  }

  private static String main(String name, String body) {
    return "public class " + name + " { public static void main(String[] a) { " + body + " } }\n";
  }

  /** Runs the script in a small project of the same shape: what it prints, and its exit code as the last line. */
  private static String tryScript(String own, String shared) throws Exception {
    Path root = Files.createTempDirectory("readme"), told = root.resolve("told");
    put(root, "main/.ci/run", Files.readString(Path.of(".ci/run")));
    put(root, "main/src/main/java/SnailsYear.java", "public class SnailsYear { }\n");
    put(root, "main/src/test/java/Own.java", main("Own", own));
    if (shared != null) put(root, "shared/tests/Theirs.java", main("Theirs", shared));
    Process run = new ProcessBuilder("sh", root.resolve("main/.ci/run").toString()).redirectErrorStream(true).redirectOutput(told.toFile()).start();
    int code = run.waitFor();
    String printed = Files.readString(told) + code;
    List<Path> made = new ArrayList<>();
    try (var walk = Files.walk(root)) { walk.forEach(made::add); }
    for (int i = made.size() - 1; i >= 0; i--) Files.delete(made.get(i));
    return printed;
  }

  private static void script(String own, String shared, String... lines) throws Exception {
    String printed = tryScript(own, shared);
    for (String line : lines) must(own + " and " + shared + " has the line " + line + ":\n" + printed, ("\n" + printed + "\n").contains("\n" + line + "\n"));
  }

  private static void wordsOnTheScript() throws Exception {
    String uses = "new SnailsYear();", fails = uses + " System.exit(1);";
    script(uses, uses, "passed: src/test/java/Own.java", "passed: ../shared/tests/Theirs.java", "0");
    script(fails, uses, "FAILED: src/test/java/Own.java", "passed: ../shared/tests/Theirs.java", "1");
    script(uses, fails, "passed: src/test/java/Own.java", "FAILED: ../shared/tests/Theirs.java", "1");
    script("no code", uses, "FAILED to compile: src/test/java/Own.java", "passed: ../shared/tests/Theirs.java", "1");
    script(uses, null, "passed: src/test/java/Own.java", "1");
  }

  public static void main(String[] args) throws Exception {
    String page = Files.readString(Path.of("README.md"));
    use(page);
    listOfTests(page);
    oneTest(page, Files.readString(Path.of(".ci/run")));
    wordsOnTheScript();
    System.out.println(wrong == 0 ? "README.md is so" : wrong + " things in README.md are not so");
    if (wrong != 0) System.exit(1);
  }
}

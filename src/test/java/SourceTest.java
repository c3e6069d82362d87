import java.lang.reflect.Constructor;
import java.lang.reflect.Field;
import java.lang.reflect.Method;
import java.lang.reflect.Modifier;
import java.nio.file.Files;
import java.nio.file.Path;
import java.util.Set;
import java.util.TreeSet;
import java.util.regex.Matcher;
import java.util.regex.Pattern;

/** The public face of the class, and the rules of LANGUAGE.md that a search can see. */
public final class SourceTest {
  private static final String[] FACE = {"write 1", "wipe 0", "fault 0", "lay 0", "cell 2", "damp 1", "pass 1", "lettuce 1", "salt 1",
      "stone 2", "undo 0", "where 1", "begins 0", "due 0", "heir 0", "far 1", "layFor 3", "decides 0", "latest 1", "seen 2", "forget 0",
      "salter 1", "slept 0", "likely 3", "bet 2", "year 2", "keep 0", "back 0", "count 1"};
  private static int wrong = 0;

  private static void must(String what, boolean so) {
    if (!so) { wrong++; System.out.println("not so: " + what); }
  }

  private static void face() {
    Set<String> want = new TreeSet<>(Set.of(FACE)), got = new TreeSet<>();
    for (Method m : SnailsYear.class.getDeclaredMethods()) {
      int is = m.getModifiers();
      if (Modifier.isPrivate(is)) {
        for (String f : FACE) must("private " + m.getName() + " bears no public name", !f.startsWith(m.getName() + " "));
      } else {
        must(m.getName() + " is public, of int", Modifier.isPublic(is) && !Modifier.isStatic(is) && m.getReturnType() == int.class);
        for (Class<?> p : m.getParameterTypes()) must(m.getName() + " takes int", p == int.class);
        got.add(m.getName() + " " + m.getParameterCount());
      }
    }
    must("the methods are the document's: " + got, got.equals(want));
    Constructor<?>[] made = SnailsYear.class.getDeclaredConstructors();
    must("one public constructor", made.length == 1 && Modifier.isPublic(made[0].getModifiers()) && made[0].getParameterCount() == 0);
    Set<String> constants = new TreeSet<>();
    for (Field f : SnailsYear.class.getDeclaredFields()) if (!Modifier.isPrivate(f.getModifiers())) constants.add(f.getName());
    must("the constants are the document's: " + constants, constants.equals(Set.of("BAD", "NO", "FULL", "NONE")));
    must("the class is public and final", (SnailsYear.class.getModifiers() & (Modifier.PUBLIC | Modifier.FINAL)) == (Modifier.PUBLIC | Modifier.FINAL));
    for (Class<?> c : SnailsYear.class.getDeclaredClasses()) {
      must(c.getName() + " is static", Modifier.isStatic(c.getModifiers()));
      int fields = 0;
      for (Field f : c.getDeclaredFields()) if (!Modifier.isStatic(f.getModifiers())) fields++;
      must(c.getName() + " has twenty fields at most", fields <= 20);
    }
    must("twelve classes at most", SnailsYear.class.getDeclaredClasses().length <= 11);
  }

  private static void words(String source) {
    String code = source.replaceAll("(?s)/\\*.*?\\*/", " ").replaceAll("//[^\n]*", " ").replaceAll("\"[^\"\n]*\"", "\"\"");
    Matcher word = Pattern.compile("\\b(throw|throws|try|catch|synchronized|assert|package|Object|Random|Thread|hashCode|toString|\\w+Exact)\\b|->|::").matcher(code);
    while (word.find()) must("no " + word.group(), false);
    Matcher imports = Pattern.compile("import ([^;]*);").matcher(code);
    while (imports.find()) must("import " + imports.group(1), imports.group(1).matches("java\\.util\\.(Arrays|List|ArrayList|Iterator)"));
    for (char c : source.toCharArray()) must("signs are of ASCII: " + (int) c, c < 128);
  }

  /** All calls of a run share one room: what an object needs is made with it, in fields and constructors alone. */
  private static void noObjectsByCalls(String source) {
    for (String line : source.split("\n")) {
      boolean makes = line.matches("[^*/]*\\b(new|clone|copyOf|copyOfRange|substring|toCharArray|values)\\b.*");
      must("made with the object: " + line, !makes || line.matches(" +private [^()]* = new .*;") || line.matches(" +this\\.\\w+ = new .*;"));
    }
  }

  private static void lengths(String source) {
    Matcher method = Pattern.compile("(?m)^( +)[A-Za-z][^=;\n]*\\) \\{\n((?:(?!\\1\\}\n).*\n)*)\\1\\}\n").matcher(source);
    while (method.find()) must("sixty lines at most: " + method.group().split("\n")[0], method.group().split("\n").length <= 60);
  }

  public static void main(String[] args) throws Exception {
    String source = Files.readString(Path.of("src/main/java/SnailsYear.java"));
    face();
    words(source);
    lengths(source);
    noObjectsByCalls(source);
    System.out.println(wrong == 0 ? "the source keeps to the rules that can be seen" : wrong + " rules are broken");
    if (wrong != 0) System.exit(1);
  }
}

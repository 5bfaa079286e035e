import java.io.IOException;
import java.lang.management.ManagementFactory;
import java.lang.reflect.Field;
import java.lang.reflect.Method;
import java.lang.reflect.Modifier;
import java.nio.file.Files;
import java.nio.file.Path;
import java.util.Arrays;
import java.util.HashSet;
import java.util.List;
import java.util.Set;
import java.util.TreeSet;
import java.util.regex.Matcher;
import java.util.regex.Pattern;

/** The face of the class, the words that its language leaves out, and the room that its calls take. */
public final class RuleTests {
  private static final String FACE = "vats(int) bath(int) recipe(int,int,int) lose(int) need(int,int,int)"
      + " named(int,int,int) ring(int) order(int) goal(int) forget() together(boolean) make(int) why(int)"
      + " pour(int) undo() of(int,int) count(int) least() fewest(int) plan(int,int) reach(int) row(int)"
      + " bit(int) flip(int) check(int) where()";
  private static final String LEFT_OUT = "throw|throws|try|catch|finally|synchronized|assert|new Thread|Object"
      + "|hashCode|toString|Exception|Error|System|Random|->|::|double|float|\\w+Exact";
  private static final long MOST_BYTES = 1_000_000;

  private static int wrong = 0;

  public static void main(String[] args) throws IOException {
    face();
    words();
    room();
    System.out.println(wrong == 0 ? "the rules are kept" : wrong + " rules are not kept");
    if (wrong != 0) {
      System.exit(1);
    }
  }

  private static void due(String what, Object got, Object want) {
    if (!got.equals(want)) {
      wrong++;
      System.out.println(what + " is " + got + ", due is " + want);
    }
  }

  private static void face() {
    Class<?> x = DyeVats.class;
    due("modifiers", x.getModifiers(), Modifier.PUBLIC | Modifier.FINAL);
    due("constructors", Arrays.toString(x.getDeclaredConstructors()), "[public DyeVats()]");
    Set<String> seen = new TreeSet<>();
    Set<String> names = new HashSet<>();
    for (Method m : x.getDeclaredMethods()) {
      if (!Modifier.isPrivate(m.getModifiers())) {
        due("answer of " + m.getName(), m.getReturnType(), int.class);
        due("modifiers of " + m.getName(), m.getModifiers(), Modifier.PUBLIC);
        String types = Arrays.toString(m.getParameterTypes()).replaceAll("[\\[\\] ]", "");
        seen.add(m.getName() + "(" + types + ")");
        names.add(m.getName());
      }
    }
    due("the face", seen, new TreeSet<>(List.of(FACE.split(" "))));
    hiddenParts(x, names);
    for (Class<?> inside : x.getDeclaredClasses()) {
      due("static " + inside, Modifier.isStatic(inside.getModifiers()), true);
      due("not public " + inside, Modifier.isPublic(inside.getModifiers()), false);
      hiddenParts(inside, names);
    }
  }

  private static void hiddenParts(Class<?> x, Set<String> names) {
    for (Method m : x.getDeclaredMethods()) {
      boolean bears = x != DyeVats.class || Modifier.isPrivate(m.getModifiers());
      due("a public name for " + m, bears && names.contains(m.getName()), false);
      due("at most seven parameters " + m, m.getParameterCount() <= 7, true);
    }
    for (Field f : x.getDeclaredFields()) {
      boolean hidden = x != DyeVats.class || Modifier.isPrivate(f.getModifiers());
      due("hidden " + f, hidden, true);
      boolean fixed = !Modifier.isStatic(f.getModifiers()) || Modifier.isFinal(f.getModifiers());
      due("static and final " + f, fixed, true);
    }
  }

  private static void words() throws IOException {
    String source = Files.readString(Path.of("src/main/java/DyeVats.java"));
    String code = source.replaceAll("(?s)/\\*.*?\\*/", "").replaceAll("//.*", "");
    Matcher m = Pattern.compile("(?<!\\w)(?:" + LEFT_OUT + ")(?!\\w)").matcher(code);
    while (m.find()) {
      due("left out of the language", m.group(), "");
    }
    Matcher imports = Pattern.compile("import .*").matcher(code);
    while (imports.find()) {
      due("import", imports.group(), "import java.util.Arrays;");
    }
  }

  /** The dearest calls on one object, each behind a change that makes it look anew. */
  private static void room() {
    com.sun.management.ThreadMXBean bean =
        (com.sun.management.ThreadMXBean) ManagementFactory.getThreadMXBean();
    if (!bean.isThreadAllocatedMemorySupported()) {
      return;
    }
    bean.setThreadAllocatedMemoryEnabled(true);
    dearCalls();
    long thread = Thread.currentThread().getId();
    long before = bean.getThreadAllocatedBytes(thread);
    int answers = dearCalls();
    long taken = bean.getThreadAllocatedBytes(thread) - before;
    due("answers of the dearest calls", answers > 0, true);
    due("room for " + taken + " bytes", taken < MOST_BYTES, true);
  }

  private static int dearCalls() {
    DyeVats x = new DyeVats();
    for (int b = 0; b < 9; b++) {
      x.bath(b < 6 ? 4 : 0);
      x.recipe(b, 0, 0);
    }
    int sum = 0;
    for (int i = 0; i < 54; i++) {
      x.forget();
      x.goal(8 - i % 3);
      x.goal(i % 6);
      sum += x.least() + x.plan(3, -1) + x.plan(18, 0) + x.reach(18) + x.fewest(9);
    }
    return sum;
  }
}

import java.io.IOException;
import java.lang.management.ManagementFactory;
import java.lang.reflect.Array;
import java.lang.reflect.Field;
import java.lang.reflect.Method;
import java.lang.reflect.Modifier;
import java.nio.file.Files;
import java.nio.file.Path;
import java.util.Arrays;
import java.util.HashSet;
import java.util.List;
import java.util.Random;
import java.util.Set;
import java.util.TreeSet;
import java.util.regex.Matcher;
import java.util.regex.Pattern;

/**
 * The face of the class, the rules of its language that a test can see, calls of all sorts that must
 * not throw, and the room that calls take.
 */
public final class RuleTests {
  private static final String FACE = "vats(int) bath(int) recipe(int,int,int) lose(int) need(int,int,int)"
      + " named(int,int,int) ring(int) order(int) goal(int) forget() together(boolean) make(int) why(int)"
      + " pour(int) undo() of(int,int) count(int) least() fewest(int) plan(int,int) reach(int) row(int)"
      + " bit(int) flip(int) check(int) where()";
  private static final String LEFT_OUT = "throw|throws|try|catch|finally|synchronized|assert|new Thread|Object"
      + "|hashCode|toString|Exception|Error|System|Random|->|::|double|float|\\w+Exact";
  private static final String LIBRARY = "Arrays.fill|Arrays.copyOf|Arrays.copyOfRange|Integer.bitCount|Math.min"
      + "|Math.max|Math.abs";
  private static final int MOST_CLASSES = 12;
  private static final int MOST_FIELDS = 20;
  private static final int MOST_LINES = 60;
  private static final int WILD_OBJECTS = 60;
  private static final int WILD_CALLS = 2000;
  /** What README.md tells of the room, in fields and elements. */
  private static final int MOST_AT_FIRST = 12_750;
  private static final int ROWS_OF_SEARCH = 2;
  private static final int ROW_AT_FIRST = 4096;
  private static final int ROW_WITH_FRAIL = 40_960;
  private static final long MOST_BYTES_OF_CALLS = 1000;

  private static int wrong = 0;

  public static void main(String[] args) throws IOException {
    face();
    words();
    sizes();
    noCallThrows();
    roomHeld();
    roomOfCalls();
    System.out.println(wrong == 0 ? "the rules are kept" : wrong + " rules are not kept");
    if (wrong != 0) {
      System.exit(1);
    }
  }

  private static void due(String what, Object got, Object want) {
    if (!got.equals(want)) {
      wrong++;
      System.out.println(what + " is " + got + ", due is " + want);
    }
  }

  private static void face() {
    Class<?> x = DyeVats.class;
    due("modifiers", x.getModifiers(), Modifier.PUBLIC | Modifier.FINAL);
    due("constructors", Arrays.toString(x.getDeclaredConstructors()), "[public DyeVats()]");
    Set<String> seen = new TreeSet<>();
    Set<String> names = new HashSet<>();
    for (Method m : x.getDeclaredMethods()) {
      if (!Modifier.isPrivate(m.getModifiers())) {
        due("answer of " + m.getName(), m.getReturnType(), int.class);
        due("modifiers of " + m.getName(), m.getModifiers(), Modifier.PUBLIC);
        String types = Arrays.toString(m.getParameterTypes()).replaceAll("[\\[\\] ]", "");
        seen.add(m.getName() + "(" + types + ")");
        names.add(m.getName());
      }
    }
    due("the face", seen, new TreeSet<>(List.of(FACE.split(" "))));
    hiddenParts(x, names);
    for (Class<?> inside : x.getDeclaredClasses()) {
      due("static " + inside, Modifier.isStatic(inside.getModifiers()), true);
      due("not public " + inside, Modifier.isPublic(inside.getModifiers()), false);
      hiddenParts(inside, names);
    }
  }

  private static void hiddenParts(Class<?> x, Set<String> names) {
    for (Method m : x.getDeclaredMethods()) {
      boolean bears = x != DyeVats.class || Modifier.isPrivate(m.getModifiers());
      due("a public name for " + m, bears && names.contains(m.getName()), false);
      due("at most seven parameters " + m, m.getParameterCount() <= 7, true);
    }
    for (Field f : x.getDeclaredFields()) {
      boolean hidden = x != DyeVats.class || Modifier.isPrivate(f.getModifiers());
      due("hidden " + f, hidden, true);
      boolean fixed = !Modifier.isStatic(f.getModifiers()) || Modifier.isFinal(f.getModifiers());
      due("static and final " + f, fixed, true);
    }
  }

  private static void words() throws IOException {
    String code = code();
    Matcher m = Pattern.compile("(?<!\\w)(?:" + LEFT_OUT + ")(?!\\w)").matcher(code);
    while (m.find()) {
      due("left out of the language", m.group(), "");
    }
    Matcher imports = Pattern.compile("import .*").matcher(code);
    while (imports.find()) {
      due("import", imports.group(), "import java.util.Arrays;");
    }
    Matcher library = Pattern.compile("\\b[A-Z]\\w*[a-z]\\w*\\.\\w+(?=\\()").matcher(code);
    while (library.find()) {
      boolean own = library.group().startsWith("Rules.");
      due("library: " + library.group(), own || library.group().matches(LIBRARY), true);
    }
  }

  private static String code() throws IOException {
    String source = Files.readString(Path.of("src/main/java/DyeVats.java"));
    return source.replaceAll("(?s)/\\*.*?\\*/", "").replaceAll("//.*", "");
  }

  /** Methods begin and end at the same indent, so their lines can be counted. */
  private static void sizes() throws IOException {
    Class<?>[] inside = DyeVats.class.getDeclaredClasses();
    due("at most " + MOST_CLASSES + " classes", inside.length < MOST_CLASSES, true);
    for (Class<?> c : inside) {
      long fields = Arrays.stream(c.getDeclaredFields()).filter(f -> !Modifier.isStatic(f.getModifiers())).count();
      due("at most " + MOST_FIELDS + " fields in " + c, fields <= MOST_FIELDS, true);
    }
    Matcher method = Pattern.compile("(?m)^( +)[^\\n=]*\\([^\\n=]*\\) \\{\\n(?:.*\\n)*?\\1\\}$").matcher(code());
    int methods = 0;
    while (method.find()) {
      methods++;
      long lines = method.group().lines().count();
      due("lines of " + method.group().lines().findFirst().get(), lines <= MOST_LINES, true);
    }
    due("methods are seen", methods > 60, true);
  }

  private static void noCallThrows() {
    Random random = new Random(17);
    for (int object = 0; object < WILD_OBJECTS; object++) {
      DyeVats x = new DyeVats();
      // What later calls answer is free behind the 512th, but even they must not throw.
      for (int call = 0; call < WILD_CALLS; call++) {
        int which = random.nextInt(26);
        int a = wild(random);
        int b = wild(random);
        int c = wild(random);
        try {
          wildCall(x, which, a, b, c);
        } catch (RuntimeException e) {
          due("call " + which + " with " + a + ", " + b + ", " + c, e.toString(), "an answer");
        }
      }
    }
  }

  private static int wild(Random random) {
    int[] ends = {Integer.MIN_VALUE, Integer.MAX_VALUE, -1, 9, 18, 19, 31, 32, 33, 4095, 4096, 1 << 30};
    return random.nextInt(6) == 0 ? ends[random.nextInt(ends.length)] : random.nextInt(6);
  }

  private static int wildCall(DyeVats x, int which, int a, int b, int c) {
    return switch (which) {
      case 0 -> x.vats(a);
      case 1 -> x.bath(a);
      case 2 -> x.recipe(a, b, c);
      case 3 -> x.lose(a);
      case 4 -> x.need(a, b, c);
      case 5 -> x.named(a, b, c);
      case 6 -> x.ring(a);
      case 7 -> x.order(a);
      case 8 -> x.goal(a);
      case 9 -> x.forget();
      case 10 -> x.together(a > 2);
      case 11 -> x.make(a);
      case 12 -> x.why(a);
      case 13 -> x.pour(a);
      case 14 -> x.undo();
      case 15 -> x.of(a, b);
      case 16 -> x.count(a);
      case 17 -> x.least();
      case 18 -> x.fewest(a);
      case 19 -> x.plan(a, b);
      case 20 -> x.reach(a);
      case 21 -> x.row(a);
      case 22 -> x.bit(a);
      case 23 -> x.flip(a);
      case 24 -> x.check(a);
      default -> x.where();
    };
  }

  private static DyeVats nineBaths(int kind) {
    DyeVats x = new DyeVats();
    for (int b = 0; b < 9; b++) {
      x.bath(b < 6 ? kind : 0);
      x.recipe(b, 0, 0);
    }
    return x;
  }

  private static void roomHeld() {
    DyeVats x = nineBaths(1);
    int first = held(new DyeVats(), new HashSet<>());
    due("room of a new object, " + first, first <= MOST_AT_FIRST, true);
    dearCalls(x);
    due("room of one without frail baths", held(x, new HashSet<>()), first);
    DyeVats y = nineBaths(4);
    dearCalls(y);
    int more = ROWS_OF_SEARCH * (ROW_WITH_FRAIL - ROW_AT_FIRST);
    due("room of one with frail baths", held(y, new HashSet<>()), first + more);
  }

  /** The fields and elements of an object and of all that it holds. */
  private static int held(Object x, Set<Object> seen) {
    if (x == null || !seen.add(x)) {
      return 0;
    }
    if (x.getClass().isArray()) {
      return Array.getLength(x);
    }
    int sum = 0;
    for (Field f : x.getClass().getDeclaredFields()) {
      if (!Modifier.isStatic(f.getModifiers())) {
        f.setAccessible(true);
        sum += 1 + (f.getType().isPrimitive() ? 0 : held(value(f, x), seen));
      }
    }
    return sum;
  }

  private static Object value(Field f, Object x) {
    try {
      return f.get(x);
    } catch (IllegalAccessException e) {
      throw new IllegalStateException(e);
    }
  }

  /** Behind the first search the dearest calls make nothing, each behind a change that makes it look anew. */
  private static void roomOfCalls() {
    com.sun.management.ThreadMXBean bean =
        (com.sun.management.ThreadMXBean) ManagementFactory.getThreadMXBean();
    if (!bean.isThreadAllocatedMemorySupported()) {
      return;
    }
    bean.setThreadAllocatedMemoryEnabled(true);
    long thread = Thread.currentThread().getId();
    for (int kind : new int[] {1, 4}) {
      DyeVats x = nineBaths(kind);
      int answers = dearCalls(x) - dearCalls(x);
      bean.getThreadAllocatedBytes(thread);
      long before = bean.getThreadAllocatedBytes(thread);
      answers += dearCalls(x);
      long taken = bean.getThreadAllocatedBytes(thread) - before;
      due("answers of the dearest calls", answers > 0, true);
      due("bytes of calls, " + taken, taken <= MOST_BYTES_OF_CALLS, true);
    }
  }

  private static int dearCalls(DyeVats x) {
    int sum = 0;
    for (int i = 0; i < 12; i++) {
      x.forget();
      x.goal(8 - i % 3);
      x.goal(i % 6);
      sum += x.least() + x.plan(3, -1) + x.plan(18, 0) + x.reach(18) + x.fewest(9) + x.row(18) + x.check(18);
    }
    return sum;
  }
}

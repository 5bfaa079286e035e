import java.io.IOException;
import java.lang.reflect.Method;
import java.nio.file.Files;
import java.nio.file.Path;
import java.util.HashMap;
import java.util.List;
import java.util.Map;
import java.util.regex.Matcher;
import java.util.regex.Pattern;
import java.util.stream.Collectors;
import java.util.stream.Stream;

/** What README.md shows is so: its calls answer as they say, and it names each call and each test. */
public final class ReadmeTests {
  private static final Path README = Path.of("README.md");
  private static final Path TESTS = Path.of("src/test/java");
  private static final Pattern BLOCK = Pattern.compile("(?s)```java\n(.*?)```");
  private static final Pattern MADE = Pattern.compile("DyeVats works = new DyeVats\\(\\);");
  private static final Pattern CALL =
      Pattern.compile("(?:int (\\w+) = )?works\\.(\\w+)\\(([^)]*)\\); +// (-?\\d+): .+");

  private static int wrong = 0;

  public static void main(String[] args) throws IOException, ReflectiveOperationException {
    String text = Files.readString(README);
    int calls = 0;
    Matcher blocks = BLOCK.matcher(text);
    while (blocks.find()) {
      calls += answered(blocks.group(1));
    }
    if (calls == 0) {
      fault("it shows no call");
    }
    namesEachCall(text);
    namesEachTest(text);
    System.out.println(wrong == 0 ? calls + " calls answer as README.md says" : wrong + " faults of README.md");
    if (wrong != 0) {
      System.exit(1);
    }
  }

  private static void fault(String text) {
    wrong++;
    System.out.println("README.md: " + text);
  }

  private static int answered(String block) throws ReflectiveOperationException {
    DyeVats works = null;
    Map<String, Integer> names = new HashMap<>();
    int calls = 0;
    for (String line : block.split("\n")) {
      Matcher call = CALL.matcher(line);
      if (MADE.matcher(line).matches()) {
        works = new DyeVats();
      } else if (works == null || !call.matches()) {
        fault("can't be read: " + line);
      } else {
        int got = answer(works, call.group(2), call.group(3), names);
        if (got != Integer.parseInt(call.group(4))) {
          fault(line + " answered " + got);
        }
        if (call.group(1) != null) {
          names.put(call.group(1), got);
        }
        calls++;
      }
    }
    return calls;
  }

  private static int answer(DyeVats works, String name, String values, Map<String, Integer> names)
      throws ReflectiveOperationException {
    String[] parts = values.isEmpty() ? new String[0] : values.split(", ");
    Class<?>[] types = new Class<?>[parts.length];
    Object[] row = new Object[parts.length];
    for (int i = 0; i < parts.length; i++) {
      boolean yesOrNo = parts[i].equals("true") || parts[i].equals("false");
      types[i] = yesOrNo ? boolean.class : int.class;
      row[i] = yesOrNo ? (Object) Boolean.valueOf(parts[i]) : (Object) value(parts[i], names);
    }
    return (Integer) DyeVats.class.getMethod(name, types).invoke(works, row);
  }

  private static Integer value(String part, Map<String, Integer> names) {
    return names.containsKey(part) ? names.get(part) : Integer.valueOf(part);
  }

  private static void namesEachCall(String text) {
    for (Method m : DyeVats.class.getDeclaredMethods()) {
      boolean face = (m.getModifiers() & java.lang.reflect.Modifier.PUBLIC) != 0;
      String values = Stream.generate(() -> "\\w+").limit(m.getParameterCount()).collect(Collectors.joining(", "));
      if (face && !Pattern.compile("`" + m.getName() + "\\(" + values + "\\)`").matcher(text).find()) {
        fault("it doesn't name " + m.getName());
      }
    }
  }

  private static void namesEachTest(String text) throws IOException {
    List<String> files;
    try (Stream<Path> tests = Files.list(TESTS)) {
      files = tests.map(p -> p.getFileName().toString().replace(".java", "")).sorted().collect(Collectors.toList());
    }
    Matcher told = Pattern.compile("(?m)^- `(\\w+)`: ").matcher(text);
    List<String> named = told.results().map(r -> r.group(1)).sorted().collect(Collectors.toList());
    if (!named.equals(files)) {
      fault("it names the tests " + named + ", but there are " + files);
    }
    if (!text.contains(".ci/run") || !Files.isExecutable(Path.of(".ci/run"))) {
      fault("it doesn't say how to run them");
    }
  }
}

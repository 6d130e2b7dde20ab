import java.io.IOException;
import java.lang.reflect.Method;
import java.lang.reflect.Modifier;
import java.nio.file.Files;
import java.nio.file.Path;
import java.util.ArrayList;
import java.util.Arrays;
import java.util.List;
import java.util.regex.Matcher;
import java.util.regex.Pattern;

/** README.md is true: its example answers what it says, each call is told there, each test, too. */
public final class ReadmeTest {
  private static final Pattern CALL = Pattern.compile("^x\\.(\\w+)\\(([-\\d, ]*)\\);\\s+// (true|false|-?\\d+)\\b");
  private static int wrong = 0;

  private static void fault(String text) { wrong++; System.out.println(text); }

  public static void main(String[] args) throws IOException, ReflectiveOperationException {
    String readme = Files.readString(Path.of("README.md"));
    int calls = example(readme);
    if (calls < 10) fault("the example has " + calls + " calls");
    for (Method m : BubbleTorus.class.getDeclaredMethods()) {
      if (Modifier.isPublic(m.getModifiers()) && !readme.contains("`" + m.getName() + "(")) fault("not told: " + m.getName());
    }
    for (Path p : tests()) {
      String name = p.getFileName().toString().replace(".java", "");
      if (!readme.contains("`" + name)) fault("not told: " + name);
    }
    System.out.println(calls + " calls of the example, " + wrong + " faults");
    if (wrong != 0) System.exit(1);
  }

  private static List<Path> tests() throws IOException {
    try (var all = Files.list(Path.of("src/test/java"))) {
      return all.filter(p -> p.getFileName().toString().endsWith("Test.java")).sorted().toList();
    }
  }

  /** Each line of the example is a call with the answer behind it; the first one makes the object. */
  private static int example(String readme) throws ReflectiveOperationException {
    int from = readme.indexOf("```java\n"), to = from < 0 ? -1 : readme.indexOf("```", from + 3);
    if (to < 0) { fault("no example"); return 0; }
    BubbleTorus x = new BubbleTorus();
    int calls = 0;
    for (String line : readme.substring(from + 8, to).split("\n")) {
      if (line.startsWith("BubbleTorus x = new BubbleTorus();")) { x = new BubbleTorus(); continue; }
      Matcher m = CALL.matcher(line);
      if (!m.find()) { fault("not a call with its answer: " + line); continue; }
      String answer = String.valueOf(call(x, m.group(1), m.group(2)));
      if (!answer.equals(m.group(3))) fault(line + " answered " + answer);
      calls++;
    }
    return calls;
  }
  private static Object call(BubbleTorus x, String name, String told) throws ReflectiveOperationException {
    List<Object> args = new ArrayList<>();
    for (String s : told.split(",")) if (!s.isBlank()) args.add(Integer.valueOf(s.trim()));
    Class<?>[] types = new Class<?>[args.size()];
    Arrays.fill(types, int.class);
    return BubbleTorus.class.getMethod(name, types).invoke(x, args.toArray());
  }
}

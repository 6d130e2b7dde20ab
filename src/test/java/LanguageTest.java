import java.io.IOException;
import java.nio.file.Files;
import java.nio.file.Path;
import java.util.ArrayDeque;
import java.util.ArrayList;
import java.util.HashMap;
import java.util.HashSet;
import java.util.List;
import java.util.Map;
import java.util.Set;
import java.util.TreeMap;
import java.util.regex.Matcher;
import java.util.regex.Pattern;

/** A rough reader of the source: those rules of LANGUAGE.md that can be seen without understanding it. */
public final class LanguageTest {
  private static int wrong = 0;
  private static final String FACE = "torus send shower pattern tick state bound packet queue next far profitable way ring ringOf "
      + "hunger node move link trace pair late lates goesOn stuck dead through arrives enters schedules alone look";

  private static void fault(String text) { wrong++; System.out.println(text); }

  public static void main(String[] args) throws IOException {
    String source = Files.readString(Path.of(args.length > 0 ? args[0] : "src/main/java/BubbleTorus.java"));
    String code = source.replaceAll("(?s)/\\*.*?\\*/", "").replaceAll("//[^\\n]*", "");
    for (String w : new String[] {"throw", "throws", "try", "catch", "synchronized", "assert", "package", "record", "instanceof",
        "Object", "Thread", "System.out", "System.nanoTime", "System.currentTimeMillis", "Random", "hashCode", "equals"}) {
      if (Pattern.compile("\\b" + Pattern.quote(w) + "\\b").matcher(code).find()) fault("the word " + w);
    }
    for (String s : new String[] {"->", "::", "\"", "@", "Exact("}) if (code.contains(s)) fault("the sign " + s);
    for (String line : source.split("\n")) {
      if (line.length() > 120) fault("a long line: " + line);
      if (line.startsWith("import ") && !line.equals("import java.util.Arrays;")) fault(line);
    }
    Set<String> library = Set.of("Arrays.fill", "Math.abs", "Math.max", "Math.min", "System.arraycopy");
    for (Matcher m = Pattern.compile("\\b(?:Integer|Long|System|Arrays|Math|String|List)\\.\\w+").matcher(code); m.find(); ) {
      if (!library.contains(m.group())) fault("the library's " + m.group());
    }
    Matcher static1 = Pattern.compile("\\bstatic (?!final\\b)\\w+(\\[\\])? \\w+\\s*[=;]").matcher(code);
    if (static1.find()) fault("a static that is not final: " + static1.group());
    int classes = 0;
    for (Matcher m = Pattern.compile("\\b(class|interface|enum) \\w+").matcher(code); m.find(); ) classes++;
    if (classes > 12) fault(classes + " classes");
    made(code);
    methods(code);
    System.out.println(wrong == 0 ? "the language is kept" : wrong + " faults");
    if (wrong != 0) System.exit(1);
  }

  /** Rows and objects are made as a field begins, or once by the one method that says so: a run has one room. */
  private static void made(String code) {
    Pattern field = Pattern.compile("^ {4,8}(private )?final \\w+(\\[\\])? \\w+ = new \\w+(\\(\\)|\\[[^\\]]+\\]);$");
    Pattern once = Pattern.compile("^ +(order|notes) = new int\\[MOST_STATES\\];$");
    for (String line : code.split("\n")) {
      if (!Pattern.compile("\\bnew\\b").matcher(line).find()) continue;
      if (!field.matcher(line).find() && !once.matcher(line).find()) fault("made anew: " + line.trim());
    }
  }

  private static void methods(String code) {
    Pattern head = Pattern.compile("(?m)^ {4,8}(public |private )?(static )?(boolean|int|long|void|Net)(\\[\\])? ?(\\w+)?\\(([^)]*)\\) \\{");
    Map<String, Set<String>> calls = new TreeMap<>();
    Set<String> face = Set.of(FACE.split(" "));
    for (Matcher m = head.matcher(code); m.find(); ) {
      if (m.group(5) == null) continue;
      String name = m.group(5);
      boolean isPublic = "public ".equals(m.group(1));
      if (isPublic != face.contains(name)) fault(name + " is public or bears a public name");
      if (!m.group(6).isBlank() && m.group(6).split(",").length > 7) fault(name + " has many parameters");
      int depth = 1, i = m.end();
      for (; i < code.length() && depth > 0; i++) depth += code.charAt(i) == '{' ? 1 : code.charAt(i) == '}' ? -1 : 0;
      String body = code.substring(m.end(), i);
      if (body.split("\n").length > 60) fault(name + " is long");
      Set<String> called = calls.computeIfAbsent(name, x -> new HashSet<>());
      for (Matcher c = Pattern.compile("(\\.?)\\b(\\w+)\\(").matcher(body); c.find(); ) {
        boolean ofAnotherClass = c.group(1).equals(".") && c.group(2).equals(name);
        if (!ofAnotherClass) called.add(c.group(2));
      }
    }
    for (Set<String> s : calls.values()) s.retainAll(calls.keySet());
    depths(calls);
  }

  /** Methods of one name in several classes count as one here, so this sees too much rather than too little. */
  private static void depths(Map<String, Set<String>> calls) {
    Map<String, Integer> known = new HashMap<>();
    for (String name : calls.keySet()) {
      int deep = depth(name, calls, known, new ArrayDeque<>());
      if (deep > 8) fault(name + " goes " + deep + " deep");
    }
  }
  private static int depth(String name, Map<String, Set<String>> calls, Map<String, Integer> known, ArrayDeque<String> open) {
    if (known.containsKey(name)) return known.get(name);
    if (open.contains(name)) { fault("calls go round: " + name + " in " + open); return 0; }
    open.push(name);
    int deepest = 0;
    List<String> all = new ArrayList<>(calls.get(name));
    for (String c : all) deepest = Math.max(deepest, depth(c, calls, known, open));
    open.pop();
    known.put(name, deepest + 1);
    return deepest + 1;
  }
}

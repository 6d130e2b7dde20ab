import java.io.ByteArrayOutputStream;
import java.io.IOException;
import java.io.InputStream;
import java.io.OutputStream;
import java.lang.reflect.Method;
import java.net.URI;
import java.nio.file.Files;
import java.nio.file.Path;
import java.util.ArrayList;
import java.util.HashMap;
import java.util.List;
import java.util.Map;
import java.util.Set;
import java.util.TreeSet;
import java.util.concurrent.ExecutorService;
import java.util.concurrent.Executors;
import java.util.concurrent.Future;
import java.util.concurrent.TimeUnit;
import java.util.concurrent.TimeoutException;
import javax.tools.FileObject;
import javax.tools.ForwardingJavaFileManager;
import javax.tools.JavaCompiler;
import javax.tools.JavaFileManager;
import javax.tools.JavaFileObject;
import javax.tools.SimpleJavaFileObject;
import javax.tools.StandardJavaFileManager;
import javax.tools.ToolProvider;

/**
 * Breaks the program on purpose, by each of Mutants: each test of BoundariesTest that a mutant names must find it,
 * and each test must be named by one. So no test there is one that can't fail.
 */
public final class MutantsTest {
  private static final Path PROGRAM = Path.of("src/main/java/BubbleTorus.java");
  private static final int SECONDS_EACH = 60;

  public static void main(String[] args) throws Exception {
    JavaCompiler compiler = ToolProvider.getSystemJavaCompiler();
    if (compiler == null) {
      System.out.println("no compiler here: java must be that of a JDK");
      System.exit(1);
    }
    String source = Files.readString(PROGRAM);
    List<String> faults = new ArrayList<>(unnamed());
    ExecutorService workers = Executors.newFixedThreadPool(Runtime.getRuntime().availableProcessors(), MutantsTest::daemon);
    List<Future<List<String>>> answers = new ArrayList<>();
    for (Mutants.Mutant m : Mutants.ALL) answers.add(workers.submit(() -> unfound(compiler, source, m)));
    for (int i = 0; i < answers.size(); i++) faults.addAll(waitedFor(answers.get(i), Mutants.ALL.get(i)));
    faults.forEach(System.out::println);
    System.out.println(Mutants.ALL.size() + " mutants, " + faults.size() + " faults");
    System.exit(faults.isEmpty() ? 0 : 1);
  }

  private static Thread daemon(Runnable work) {
    Thread t = new Thread(null, work, "mutants", 64L << 20);
    t.setDaemon(true);
    return t;
  }

  private static List<String> waitedFor(Future<List<String>> answer, Mutants.Mutant m) throws Exception {
    try {
      return answer.get(SECONDS_EACH, TimeUnit.SECONDS);
    } catch (TimeoutException x) {
      return List.of("no end: " + m);
    }
  }

  /** Tests that no mutant names, and names that no test has. */
  private static List<String> unnamed() {
    Set<String> tests = BoundariesTest.names(), named = new TreeSet<>();
    for (Mutants.Mutant m : Mutants.ALL) named.addAll(m.names);
    List<String> faults = new ArrayList<>();
    for (String name : tests) if (!named.contains(name)) faults.add("no mutant for: " + name);
    for (String name : named) if (!tests.contains(name)) faults.add("no test is named: " + name);
    return faults;
  }

  /** What is wrong with one mutant: it can't be made, or a test that it names does not find it. */
  private static List<String> unfound(JavaCompiler compiler, String source, Mutants.Mutant m) {
    List<String> faults = new ArrayList<>();
    try {
      Loader loader = new Loader(compiled(compiler, m.applied(source)));
      Method finds = loader.loadClass("BoundariesTest").getMethod("finds", String.class);
      for (String name : m.names) {
        if (!BoundariesTest.names().contains(name)) continue;
        if (!(Boolean) finds.invoke(null, name)) faults.add("not found by (" + name + "): " + m);
      }
    } catch (ReflectiveOperationException | IOException | IllegalArgumentException | LinkageError x) {
      faults.add(x + ": " + m);
    }
    return faults;
  }

  private static Map<String, byte[]> compiled(JavaCompiler compiler, String source) throws IOException {
    StringBuilder said = new StringBuilder();
    try (StandardJavaFileManager files = compiler.getStandardFileManager(null, null, null);
        Kept kept = new Kept(files)) {
      JavaFileObject text = new SimpleJavaFileObject(URI.create("text:///BubbleTorus.java"), JavaFileObject.Kind.SOURCE) {
        @Override public CharSequence getCharContent(boolean ignoreEncodingErrors) { return source; }
      };
      boolean done = compiler.getTask(null, kept, d -> said.append(d).append('\n'), List.of("-proc:none"), null, List.of(text)).call();
      if (!done) throw new IllegalArgumentException("does not compile: " + said);
      Map<String, byte[]> classes = new HashMap<>();
      kept.classes.forEach((name, bytes) -> classes.put(name, bytes.toByteArray()));
      return classes;
    }
  }

  /** Keeps what javac writes. */
  private static final class Kept extends ForwardingJavaFileManager<JavaFileManager> {
    final Map<String, ByteArrayOutputStream> classes = new HashMap<>();

    Kept(JavaFileManager files) { super(files); }

    @Override public JavaFileObject getJavaFileForOutput(Location where, String name, JavaFileObject.Kind kind, FileObject sibling) {
      return new SimpleJavaFileObject(URI.create("bytes:///" + name.replace('$', '-')), kind) {
        @Override public OutputStream openOutputStream() {
          ByteArrayOutputStream out = new ByteArrayOutputStream();
          classes.put(name, out);
          return out;
        }
      };
    }
  }

  /** Loads the broken program, and BoundariesTest anew, so that it uses that one. */
  private static final class Loader extends ClassLoader {
    final Map<String, byte[]> classes;

    Loader(Map<String, byte[]> classes) {
      super(MutantsTest.class.getClassLoader());
      this.classes = classes;
    }

    @Override protected Class<?> loadClass(String name, boolean resolve) throws ClassNotFoundException {
      synchronized (getClassLoadingLock(name)) {
        Class<?> known = findLoadedClass(name);
        if (known != null) return known;
        if (classes.containsKey(name)) return defined(name, classes.get(name));
        if (!name.startsWith("BoundariesTest")) return super.loadClass(name, resolve);
        try (InputStream in = getParent().getResourceAsStream(name + ".class")) {
          if (in == null) throw new ClassNotFoundException(name);
          return defined(name, in.readAllBytes());
        } catch (IOException x) {
          throw new ClassNotFoundException(name, x);
        }
      }
    }
    private Class<?> defined(String name, byte[] bytes) { return defineClass(name, bytes, 0, bytes.length); }
  }
}

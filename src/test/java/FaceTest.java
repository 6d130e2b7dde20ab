import java.lang.reflect.Constructor;
import java.lang.reflect.Field;
import java.lang.reflect.Method;
import java.lang.reflect.Modifier;
import java.util.Arrays;
import java.util.Set;
import java.util.TreeSet;
import java.util.stream.Collectors;

/** The face is that of the document, no more and no less; the classes behind it are as LANGUAGE.md lets them be. */
public final class FaceTest {
  /** "The public face" of the document, word by word. */
  private static final String FACE = """
      public boolean torus(int w, int h, int e, int a, int rule, int bound);
      public int send(int from, int to);
      public int shower(int n);
      public int pattern(int kind, int node);
      public int tick(int n);
      public int state(int v);
      public boolean bound(int v);
      public int packet(int packet, int what);
      public int queue(int node, int lane, int d, int i);
      public int next(int node, int d);
      public int far(int node, int to);
      public int profitable(int node, int to);
      public int way(int node, int to, int i);
      public int ring(int ring, int what);
      public int ringOf(int node, int d);
      public int hunger(int node, int d);
      public int node(int node, int what);
      public int move(int i, int what);
      public int link(int node, int d);
      public int trace(int packet, int i);
      public int pair(int from, int to, int what);
      public int late(int low, int high);
      public int lates(int i, int what);
      public int goesOn(int packet);
      public int stuck();
      public int dead();
      public int through();
      public int arrives(int from, int to);
      public int enters(int node, int d);
      public int schedules(int what);
      public int alone(int n, int e, int rule, int what);
      public int look(int what);
      """;
  private static final int MOST_CLASSES = 12;
  private static final int MOST_FIELDS = 20;
  private static int wrong = 0;

  private static void fault(String text) { wrong++; System.out.println(text); }
  private static void must(boolean holds, String text) { if (!holds) fault(text); }

  public static void main(String[] args) {
    Class<?> x = BubbleTorus.class;
    must(Modifier.isPublic(x.getModifiers()) && Modifier.isFinal(x.getModifiers()), "the class is public and final");
    must(x.getPackage() == null || x.getPackageName().isEmpty(), "it has no package");
    must(x.getSuperclass() == Object.class && x.getInterfaces().length == 0, "it stands for itself");
    methods(x);
    constructors(x);
    constants(x);
    inside(x);
    System.out.println(wrong == 0 ? "the face is the document's" : wrong + " faults");
    if (wrong != 0) System.exit(1);
  }

  private static void methods(Class<?> x) {
    Set<String> due = FACE.lines().map(s -> s.replaceAll("(?<=[(,] ?)(int) \\w+", "$1").replace(";", "")).collect(Collectors.toCollection(TreeSet::new));
    Set<String> names = due.stream().map(s -> s.replaceAll("\\(.*", "").replaceAll(".* ", "")).collect(Collectors.toSet());
    Set<String> open = new TreeSet<>();
    for (Method m : x.getDeclaredMethods()) {
      if (m.isSynthetic()) continue;
      if (!Modifier.isPrivate(m.getModifiers())) open.add(told(m));
      else must(!names.contains(m.getName()), "a private method bears a public name: " + m.getName());
    }
    for (String s : due) must(open.contains(s), "missing: " + s);
    for (String s : open) must(due.contains(s), "too much: " + s);
  }
  private static String told(Method m) {
    String params = Arrays.stream(m.getParameterTypes()).map(Class::getName).collect(Collectors.joining(", "));
    return Modifier.toString(m.getModifiers()) + " " + m.getReturnType().getName() + " " + m.getName() + "(" + params + ")";
  }

  private static void constructors(Class<?> x) {
    Constructor<?>[] all = x.getDeclaredConstructors();
    must(all.length == 1 && Modifier.isPublic(all[0].getModifiers()) && all[0].getParameterCount() == 0, "one constructor, public, of nothing");
  }

  private static void constants(Class<?> x) {
    for (Field f : x.getDeclaredFields()) {
      if (f.isSynthetic() || Modifier.isPrivate(f.getModifiers())) continue;
      must(f.getName().equals("NONE") && f.getType() == int.class && Modifier.isStatic(f.getModifiers()) && Modifier.isFinal(f.getModifiers()),
          "too much: " + f);
    }
    must(Arrays.stream(x.getFields()).anyMatch(f -> f.getName().equals("NONE")), "missing: NONE");
  }

  /** LANGUAGE.md, rules 1, 2, 5 and 11. */
  private static void inside(Class<?> x) {
    Class<?>[] all = x.getDeclaredClasses();
    must(all.length + 1 <= MOST_CLASSES, "classes: " + (all.length + 1));
    fields(x);
    for (Class<?> c : all) {
      int m = c.getModifiers();
      must(Modifier.isStatic(m) && !Modifier.isPublic(m) && !Modifier.isProtected(m), c.getName() + " is static and not public");
      must(c.getDeclaredClasses().length == 0, c.getName() + " has no classes inside");
      fields(c);
    }
  }
  private static void fields(Class<?> c) {
    int own = 0;
    for (Field f : c.getDeclaredFields()) {
      if (f.isSynthetic()) continue;
      if (!Modifier.isStatic(f.getModifiers())) { own++; continue; }
      must(Modifier.isFinal(f.getModifiers()), "static, but not final: " + f);
      must(f.getType().isPrimitive() || f.getType() == String.class, "static, but no constant: " + f);
    }
    must(own <= MOST_FIELDS, c.getName() + " has " + own + " fields");
  }
}

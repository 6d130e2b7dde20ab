import java.lang.reflect.InvocationTargetException;
import java.lang.reflect.Method;
import java.util.Arrays;
import java.util.Comparator;

/** Tells the program and PlainModel the same things, by a row of numbers of its own, and compares all answers. */
public final class AgainstModelTest {
  private static int wrong = 0;
  private static int compared = 0;
  private static long seed = 1;

  private static int any(int m) {
    seed = (seed * 6364136223846793005L + 1442695040888963407L);
    return (int) ((seed >>> 33) % m);
  }

  private static final Method[] FACE = face();
  private static Method[] face() {
    Method[] all = Arrays.stream(BubbleTorus.class.getDeclaredMethods())
        .filter(m -> java.lang.reflect.Modifier.isPublic(m.getModifiers())).toArray(Method[]::new);
    Arrays.sort(all, Comparator.comparing(Method::getName));
    return all;
  }
  private static Method named(String name) {
    for (Method m : FACE) if (m.getName().equals(name)) return m;
    throw new IllegalStateException(name);
  }
  private static Object ask(Object x, Method m, Object[] args) {
    try {
      return x.getClass().getMethod(m.getName(), m.getParameterTypes()).invoke(x, args);
    } catch (InvocationTargetException e) {
      return e.getCause().toString() + " at " + e.getCause().getStackTrace()[0];
    } catch (ReflectiveOperationException e) {
      return e.toString();
    }
  }

  private BubbleTorus x = new BubbleTorus();
  private PlainModel y = new PlainModel();
  private final StringBuilder told = new StringBuilder();

  private Object both(String name, int... args) {
    Method m = named(name);
    Object[] boxed = Arrays.stream(args).boxed().toArray();
    Object a = ask(x, m, boxed), b = ask(y, m, boxed);
    compared++;
    if (!a.equals(b)) {
      wrong++;
      if (wrong < 20) System.out.println(told + name + Arrays.toString(args) + " answered " + a + ", the model says " + b);
    }
    return a;
  }
  private Object tell(String name, int... args) {
    Object a = both(name, args);
    told.append(name).append(Arrays.toString(args)).append(' ');
    return a;
  }

  /** All that can be asked cheaply, edges and one beyond them included. */
  private void lookAtAll() {
    int w = x.look(0), h = x.look(1), nodes = w * h;
    for (int i = -1; i <= 20; i++) both("look", i);
    for (int p = -1; p <= x.look(7); p++) {
      for (int what = -1; what <= 11; what++) both("packet", p, what);
      for (int i = -1; i <= 5; i++) both("trace", p, i);
    }
    for (int v = -1; v <= nodes; v++) {
      for (int d = -1; d <= 4; d++) {
        both("next", v, d); both("ringOf", v, d); both("hunger", v, d); both("link", v, d); both("enters", v, d);
        for (int lane = -1; lane <= 3; lane++) for (int i = -2; i <= 6; i++) both("queue", v, lane, d, i);
      }
      for (int what = -1; what <= 6; what++) both("node", v, what);
      for (int u = -1; u <= nodes; u++) {
        for (int what = -1; what <= 4; what++) both("pair", v, u, what);
      }
    }
    for (int r = -1; r <= 2 * (w + h); r++) for (int what = -1; what <= 11; what++) both("ring", r, what);
    for (int i = -2; i <= x.move(-1, 0); i++) for (int what = -1; what <= 5; what++) both("move", i, what);
    for (int i = -2; i <= x.lates(-1, 0); i++) for (int what = -1; what <= 2; what++) both("lates", i, what);
    for (int i = 0; i < 6; i++) both("late", any(12) - 2, any(30) - 2);
  }
  private void lookAhead() {
    for (int p = -1; p <= x.look(7); p++) if (p % 7 == 0 || x.look(7) < 30) both("goesOn", p);
    both("stuck");
    both("dead");
    for (int what = -1; what <= 5; what++) both("schedules", what);
    if (any(3) == 0) both("through");
    if (any(3) == 0) both("arrives", any(x.look(0) * x.look(1)), any(x.look(0) * x.look(1)));
  }
  private void shape() {
    int nodes = x.look(0) * x.look(1);
    for (int v = -1; v <= nodes; v++) for (int u = -1; u <= nodes; u++) {
      both("far", v, u); both("profitable", v, u);
      for (int i = -2; i <= 5; i++) both("way", v, u, i);
    }
  }

  private void anyTorus() {
    tell("torus", 2 + any(3), 2 + any(3), 1 + any(any(2) == 0 ? 2 : 4), any(any(2) == 0 ? 1 : 4), any(3), any(3) == 0 ? any(100) : any(4));
    if (any(4) == 0) tell("state", any(1 << 30) * (any(2) * 2 - 1));
  }
  private void run(int steps, int crowd) {
    anyTorus();
    if (crowd == 0) shape();
    for (int i = 0; i < steps; i++) {
      int nodes = x.look(0) * x.look(1);
      switch (any(crowd == 0 ? 4 : 9)) {
        case 0: case 1: if (crowd > 0 || x.look(7) - x.look(8) < 3) tell("send", any(nodes + 1), any(nodes)); break;
        case 2: case 3: tell("tick", 1 + any(any(4) == 0 ? 12 : 2)); break;
        case 4: case 5: tell("shower", 1 + any(20)); break;
        case 6: tell("pattern", any(5), any(nodes)); break;
        case 7: for (int k = 0; k < 5; k++) tell("pattern", any(2) + any(2) * 3, any(nodes)); break;
        default: if (any(3) == 0) tell("bound", any(6) - 1); else tell("tick", 1); break;
      }
      if (any(15) == 0) anyTorus();
      if (any(3) == 0) lookAhead();
      if (any(6) == 0) lookAtAll();
    }
    lookAtAll();
    lookAhead();
  }

  public static void main(String[] args) {
    int many = args.length > 0 ? Integer.parseInt(args[0]) : 90;
    if (args.length > 1) seed = Long.parseLong(args[1]);
    for (int n = 1; n <= 5; n++) for (int e = 0; e <= 4; e++) for (int rule = -1; rule <= 3; rule++) for (int what = -1; what <= 8; what++) {
      new AgainstModelTest().both("alone", n, e, rule, what);
    }
    new AgainstModelTest().lookAtAll();
    for (int i = 0; i < many && wrong == 0; i++) {
      AgainstModelTest t = new AgainstModelTest();
      t.run(i % 3 == 0 ? 30 : 25, i % 3);
    }
    System.out.println(compared + " answers compared with the model, " + wrong + " differ");
    if (wrong != 0) System.exit(1);
  }
}

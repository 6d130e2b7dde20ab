import java.lang.reflect.InvocationTargetException;
import java.lang.reflect.Method;
import java.lang.reflect.Modifier;
import java.util.Arrays;
import java.util.Comparator;

/** No call may throw, whatever it is told, in whatever state; and what only asks changes nothing. */
public final class WrongInputsTest {
  private static final int[] ODD = {Integer.MIN_VALUE, Integer.MIN_VALUE + 1, -1000000, -17, -2, -1, 0, 1, 2, 3, 4, 5, 6, 7, 8,
      9, 15, 16, 17, 60, 61, 99, 100, 249, 250, 251, 1000, 65536, Integer.MAX_VALUE - 1, Integer.MAX_VALUE};
  private static final String TELLS = " torus send shower pattern tick state bound ";
  private static int wrong = 0;
  private static long seed = 5;

  private static int any(int m) {
    seed = seed * 6364136223846793005L + 1442695040888963407L;
    return (int) ((seed >>> 33) % m);
  }

  private static long call(BubbleTorus x, Method m, Object[] args) {
    try {
      Object r = m.invoke(x, args);
      return r instanceof Boolean ? ((Boolean) r ? 1 : 0) : (Integer) r;
    } catch (InvocationTargetException e) {
      wrong++;
      System.out.println(m.getName() + Arrays.toString(args) + " threw " + e.getCause());
      return 0;
    } catch (IllegalAccessException e) {
      throw new IllegalStateException(e);
    }
  }

  private static long fingerprint(BubbleTorus x) {
    long sum = 0;
    for (int i = 0; i < 20; i++) sum = sum * 31 + x.look(i);
    for (int p = 0; p < x.look(7); p++) for (int i = 0; i < 11; i++) sum = sum * 31 + x.packet(p, i);
    for (int r = 0; r < 16; r++) for (int i = 0; i < 11; i++) sum = sum * 31 + x.ring(r, i);
    for (int v = 0; v < 16; v++) for (int d = 0; d < 4; d++) {
      sum = sum * 31 + x.hunger(v, d);
      sum = sum * 31 + x.link(v, d);
      for (int lane = 0; lane < 3; lane++) for (int i = -1; i < 6; i++) sum = sum * 31 + x.queue(v, lane, d, i);
    }
    for (int i = 0; i < x.move(-1, 0); i++) for (int k = 0; k < 5; k++) sum = sum * 31 + x.move(i, k);
    return sum;
  }

  public static void main(String[] args) {
    Method[] face = Arrays.stream(BubbleTorus.class.getDeclaredMethods())
        .filter(m -> Modifier.isPublic(m.getModifiers())).toArray(Method[]::new);
    Arrays.sort(face, Comparator.comparing(Method::getName));
    if (face.length != 33 - 1) { wrong++; System.out.println("the face has " + face.length + " methods"); }
    int calls = 0;
    for (int run = 0; run < 60; run++) {
      BubbleTorus x = new BubbleTorus();
      x.torus(2 + any(3), 2 + any(3), 1 + any(4), any(4), any(3), any(4));
      for (int i = 0; i < 3; i++) { x.shower(1 + any(60)); x.tick(1 + any(3)); }
      for (int i = 0; i < 900; i++) {
        Method m = face[any(face.length)];
        Object[] a = new Object[m.getParameterCount()];
        for (int k = 0; k < a.length; k++) a[k] = any(3) == 0 ? any(12) - 2 : ODD[any(ODD.length)];
        boolean tells = TELLS.contains(" " + m.getName() + " ");
        long before = tells ? 0 : fingerprint(x);
        call(x, m, a);
        calls++;
        if (!tells && before != fingerprint(x)) { wrong++; System.out.println(m.getName() + Arrays.toString(a) + " changed something"); }
      }
    }
    System.out.println(calls + " odd calls, " + wrong + " faults");
    if (wrong != 0) System.exit(1);
  }
}

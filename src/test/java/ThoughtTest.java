/** What is told in thought comes true: through and arrives against ticks that are really run, in crowded toruses. */
public final class ThoughtTest {
  private static int wrong = 0;
  private static int asked = 0;
  private static long seed = 3;

  private static int any(int m) {
    seed = seed * 6364136223846793005L + 1442695040888963407L;
    return (int) ((seed >>> 33) % m);
  }

  private static void due(String what, long got, long want) {
    asked++;
    if (got != want) {
      wrong++;
      if (wrong < 20) System.out.println(what + " answered " + got + ", but it was " + want);
    }
  }

  private static int ticksUntilAll(BubbleTorus x) {
    for (int t = 0; t <= 1000; t++) {
      if (x.look(7) == x.look(8)) return t;
      x.tick(1);
    }
    return -1;
  }
  private static int ticksUntil(BubbleTorus x, int packet) {
    for (int t = 1; t <= 1000; t++) {
      x.tick(1);
      if (x.packet(packet, 3) == 3) return t;
    }
    return -1;
  }

  public static void main(String[] args) {
    for (int run = 0; run < 600; run++) {
      BubbleTorus x = new BubbleTorus(), y = new BubbleTorus(), z = new BubbleTorus();
      int rule = any(3), w = 2 + any(3), h = 2 + any(3), e = 1 + any(2) + (rule == 1 ? 1 : 0), a = any(2), bound = any(4);
      BubbleTorus[] all = {x, y, z};
      int from = any(w * h), to = any(w * h), first = any(1 << 30), turns = 1 + any(4);
      for (BubbleTorus t : all) { t.torus(w, h, e, a, rule, bound); t.state(first); }
      for (int i = 0; i < turns; i++) {
        int n = 5 + any(40), ticks = 1 + any(5), b = any(5);
        for (BubbleTorus t : all) { t.shower(n); t.tick(ticks); if (b < 3) t.bound(b); }
        z.through();                                  // z has thoughts before; they leave nothing behind
        z.arrives(from, to);
      }
      String name = "torus(" + w + ", " + h + ", " + e + ", " + a + ", " + rule + ", " + bound + ")";
      int arrives = z.arrives(from, to), through = z.through();
      due(name + " arrives again", z.arrives(from, to), arrives);
      due(name + " through", through, ticksUntilAll(x));
      int packet = y.send(from, to);
      due(name + " arrives", arrives, packet < 0 ? -1 : ticksUntil(y, packet));
      due(name + " through of z itself", through, ticksUntilAll(z));
    }
    System.out.println(asked + " thoughts, " + wrong + " did not come true");
    if (wrong != 0) System.exit(1);
  }
}

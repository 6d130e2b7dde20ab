import java.util.ArrayList;
import java.util.LinkedHashMap;
import java.util.LinkedHashSet;
import java.util.List;
import java.util.Map;
import java.util.Set;
import java.util.function.Supplier;
import java.util.function.ToLongFunction;

/**
 * For each sentence of the document that names a boundary case a test of its own, by the number of its promise.
 * MutantsTest shows for each of them a broken program that it finds.
 */
public final class BoundariesTest {
  private static final int NONE = -1;
  private static final int LEAST = Integer.MIN_VALUE;
  private static final int MOST = Integer.MAX_VALUE;
  private static final Map<String, Runnable> TESTS = new LinkedHashMap<>();
  private static final List<String> FAULTS = new ArrayList<>();

  static {
    newObject();
    torusSizes();
    torusAnew();
    send();
    shower();
    pattern();
    tick();
    whatGoes();
    lanesAndRules();
    critical();
    stateAndBound();
    packet();
    outOfOrder();
    queue();
    shape();
    ring();
    hunger();
    marks();
    node();
    move();
    linkAndTrace();
    pair();
    lates();
    goesOn();
    through();
    arrives();
    enters();
    schedules();
    alone();
    look();
  }

  public static void main(String[] args) {
    int broken = 0;
    for (String name : TESTS.keySet()) if (finds(name)) broken++;
    FAULTS.forEach(System.out::println);
    System.out.println(TESTS.size() - broken + " boundaries hold, " + broken + " do not");
    if (broken > 0) System.exit(1);
  }

  public static Set<String> names() { return new LinkedHashSet<>(TESTS.keySet()); }

  /** Runs one test: whether it finds a fault. */
  public static boolean finds(String name) {
    int before = FAULTS.size();
    try {
      TESTS.get(name).run();
    } catch (RuntimeException | StackOverflowError x) {
      FAULTS.add("threw " + x);
    }
    for (int i = before; i < FAULTS.size(); i++) FAULTS.set(i, "(" + name + ") " + FAULTS.get(i));
    return FAULTS.size() > before;
  }

  // ---- how the tests are told

  private static void test(String name, Runnable body) {
    if (TESTS.put(name, body) != null) throw new IllegalStateException("two tests are named " + name);
  }
  private static void is(long got, long want) {
    if (got == want) return;
    int line = 0;
    for (StackTraceElement e : new Throwable().getStackTrace()) {
      if (e.getMethodName().startsWith("lambda$")) { line = e.getLineNumber(); break; }
    }
    FAULTS.add("line " + line + ": answered " + got + ", due is " + want);
  }
  private static void is(boolean got, boolean want) { is(got ? 1 : 0, want ? 1 : 0); }
  /** Asked of the class that runs: javac writes a constant's value into the classes that use it. */
  private static int constant(String name) {
    try {
      return BubbleTorus.class.getField(name).getInt(null);
    } catch (ReflectiveOperationException x) {
      throw new IllegalStateException(x);
    }
  }
  private static void none(long... got) { for (long g : got) is(g, NONE); }

  private static BubbleTorus of(int w, int h, int e, int a, int rule, int bound) {
    BubbleTorus x = new BubbleTorus();
    is(x.torus(w, h, e, a, rule, bound), true);
    return x;
  }
  /** Sends pair by pair, each of which must be SENT. */
  private static BubbleTorus sent(BubbleTorus x, int... pairs) {
    for (int i = 0; i < pairs.length; i += 2) is(x.send(pairs[i], pairs[i + 1]) >= 0, true);
    return x;
  }
  private static BubbleTorus sentTimes(BubbleTorus x, int times, int from, int to) {
    for (int i = 0; i < times; i++) sent(x, from, to);
    return x;
  }
  private static BubbleTorus ticked(BubbleTorus x, int n) { x.tick(n); return x; }
  private static BubbleTorus stated(BubbleTorus x, int state) { x.state(state); return x; }

  /** All that can be asked of two objects is the same; made anew now and then, as an object has 512 calls. */
  private static void same(Supplier<BubbleTorus> a, Supplier<BubbleTorus> b) {
    int asked = 0;
    BubbleTorus x = a.get(), y = b.get();
    for (Map.Entry<String, ToLongFunction<BubbleTorus>> q : questions(x.look(0) * x.look(1)).entrySet()) {
      if (asked++ == 300) { asked = 0; x = a.get(); y = b.get(); }
      long left = q.getValue().applyAsLong(x), right = q.getValue().applyAsLong(y);
      if (left != right) FAULTS.add(q.getKey() + " answered " + left + ", due is " + right);
    }
  }
  private static Map<String, ToLongFunction<BubbleTorus>> questions(int nodes) {
    Map<String, ToLongFunction<BubbleTorus>> all = new LinkedHashMap<>();
    for (int i = 0; i < 20; i++) { int k = i; all.put("look " + i, x -> x.look(k)); }
    for (int i = 0; i < 16; i++) for (int j = 0; j < 11; j++) { int r = i, k = j; all.put("ring " + i + " " + j, x -> x.ring(r, k)); }
    for (int i = 0; i < nodes; i++) {
      int v = i;
      for (int j = 0; j < 6; j++) { int k = j; all.put("node " + v + " " + j, x -> x.node(v, k)); }
      for (int j = 0; j < 6; j++) { int k = j; all.put("door " + v + " " + j, x -> x.queue(v, 0, 0, k)); }
      for (int j = 0; j < 4; j++) {
        int d = j;
        all.put("hunger " + v + " " + d, x -> x.hunger(v, d));
        all.put("link " + v + " " + d, x -> x.link(v, d));
        all.put("enters " + v + " " + d, x -> x.enters(v, d));
        for (int l = 1; l <= 2; l++) for (int k = -1; k < 4; k++) {
          int lane = l, n = k;
          all.put("queue " + v + " " + lane + " " + d + " " + k, x -> x.queue(v, lane, d, n));
        }
      }
      for (int j = 0; j < nodes; j++) for (int k = 0; k < 4; k++) {
        int u = j, what = k;
        all.put("pair " + v + " " + u + " " + k, x -> x.pair(v, u, what));
      }
    }
    for (int i = 0; i < 40; i++) {
      int p = i;
      for (int j = 0; j < 11; j++) { int k = j; all.put("packet " + p + " " + j, x -> x.packet(p, k)); }
      for (int j = 0; j < 5; j++) { int k = j; all.put("trace " + p + " " + j, x -> x.trace(p, k)); }
      all.put("goesOn " + p, x -> x.goesOn(p));
    }
    for (int i = -1; i < 20; i++) for (int j = 0; j < 5; j++) { int m = i, k = j; all.put("move " + i + " " + j, x -> x.move(m, k)); }
    for (int i = -1; i < 5; i++) for (int j = 0; j < 2; j++) { int m = i, k = j; all.put("lates " + i + " " + j, x -> x.lates(m, k)); }
    all.put("stuck", BubbleTorus::stuck);
    all.put("dead", BubbleTorus::dead);
    all.put("through", BubbleTorus::through);
    return all;
  }

  // ---- toruses that many tests begin with

  /** Row 0 of 3 by 3: node 0 sends six to 1 by ADAPTIVE, one a tick: HUNGER there is 1 to 5, then 0. */
  private static BubbleTorus hungry(int bound) { return sentTimes(of(3, 3, 2, 1, 0, bound), 6, 0, 1); }
  /** Node 1 may never enter node 0: its one place is CRITICAL. Its HUNGER grows by one a tick. */
  private static BubbleTorus hungryForGood(int bound) { return sent(of(2, 2, 1, 0, 2, bound), 1, 0); }
  /** Much at once: marks, hunger, what is lost, what is on its way, in all lanes. */
  private static BubbleTorus busy() {
    BubbleTorus x = of(3, 3, 2, 1, 2, 1);
    x.state(2);
    for (int i = 0; i < 3; i++) { x.shower(12); x.tick(1); }
    for (int i = 0; i < 2; i++) x.pattern(4, 4);
    x.tick(2);
    return x;
  }
  /** Four in a row, each with a packet for two on: with E 1 and RULE 0 all enter, and none goes on any more. */
  private static BubbleTorus circle() { return sent(of(4, 2, 1, 0, 0, 0), 0, 2, 1, 3, 2, 0, 3, 1); }
  /** 240 packets, by 15 patterns of 16; no door is full behind the tick. */
  private static BubbleTorus crowd() {
    BubbleTorus x = of(4, 4, 4, 3, 0, 0);
    for (int i = 0; i < 15; i++) { is(x.pattern(3, 0), 16); x.tick(1); }
    return x;
  }
  /** With RULE 2 and E 1, 0 may enter node 0 in TICK 2 only, as 1 has CONTINUED into CRITICAL there and is DELIVERED. */
  private static BubbleTorus lateAtDoor() { return ticked(sent(of(4, 2, 1, 0, 2, 0), 3, 0, 2, 0), 4); }
  /** Row 0 of 4 by 2, all delivered; node 1 is BARRED in it for good, as BOUND is 0 and the MARK rests. */
  private static BubbleTorus barredForGood() {
    BubbleTorus x = sentTimes(of(4, 2, 2, 1, 0, 1), 3, 0, 1);
    x.tick(2);
    x.bound(0);
    x.tick(5);
    is(x.ring(0, 8), 2);
    return x;
  }

  // ---- promise 1

  private static void newObject() {
    test("1: W is 3 at first", () -> { is(new BubbleTorus().look(0), 3); is(new BubbleTorus().next(2, 0), 0); });
    test("1: H is 3 at first", () -> { is(new BubbleTorus().look(1), 3); is(new BubbleTorus().next(6, 2), 0); });
    test("1: E is 2 at first", () -> { is(new BubbleTorus().look(2), 2); is(new BubbleTorus().ring(0, 4), 6); });
    test("1: A is 1 at first", () -> {
      BubbleTorus x = sent(new BubbleTorus(), 1, 4, 1, 4, 1, 4, 0, 4, 0, 4, 0, 4);
      is(x.look(3), 1);
      x.tick(2);                                      // node 1 sends its own; what came by 0 waits there
      is(x.queue(1, 2, 0, NONE), 1);
      is(x.queue(1, 1, 0, NONE), 1);
    });
    test("1: RULE is 1 at first", () -> is(new BubbleTorus().look(4), 1));
    test("1: BOUND is 8 at first", () -> is(new BubbleTorus().look(5), 8));
    test("1: TICK is 0 at first", () -> is(new BubbleTorus().look(6), 0));
    test("1: STATE is 0 at first", () -> { is(new BubbleTorus().look(17), 0); is(new BubbleTorus().state(4), 0); });
    test("1: a new object is a TORUS as it is at first", () -> same(BubbleTorus::new, () -> of(3, 3, 2, 1, 1, 8)));
    test("1: a new object has no PACKETS", () -> {
      BubbleTorus x = new BubbleTorus();
      is(x.look(7), 0);
      none(x.packet(0, 0));
      is(x.send(5, 4), 0);
    });
    test("1: NONE is -1", () -> is(constant("NONE"), -1));
  }

  // ---- promise 2

  private static void can(int w, int h, int e, int a, int rule, int bound) {
    BubbleTorus x = of(w, h, e, a, rule, bound);
    int[] due = {w, h, e, a, rule, bound};
    for (int what = 0; what < 6; what++) is(x.look(what), due[what]);
    is(x.ring(0, 4), w * e);
    is(x.next(w * h - 1, 0), w * (h - 1));
    none(x.next(w * h, 0));
  }
  private static void cannot(int w, int h, int e, int a, int rule, int bound) {
    BubbleTorus x = of(4, 3, 3, 2, 2, 7);
    is(x.torus(w, h, e, a, rule, bound), false);
    int[] due = {4, 3, 3, 2, 2, 7};
    for (int what = 0; what < 6; what++) is(x.look(what), due[what]);
  }
  private static void torusSizes() {
    test("2: W 1 is too small", () -> { for (int w : new int[] {1, 0, -1, LEAST}) cannot(w, 3, 2, 1, 0, 8); });
    test("2: W 5 is too large", () -> { for (int w : new int[] {5, 6, MOST}) cannot(w, 3, 2, 1, 0, 8); });
    test("2: W 2 can be", () -> can(2, 3, 2, 1, 0, 8));
    test("2: W 4 can be", () -> can(4, 3, 2, 1, 0, 8));
    test("2: H 1 is too small", () -> { for (int h : new int[] {1, 0, -1, LEAST}) cannot(3, h, 2, 1, 0, 8); });
    test("2: H 5 is too large", () -> { for (int h : new int[] {5, 6, MOST}) cannot(3, h, 2, 1, 0, 8); });
    test("2: H 2 can be", () -> can(3, 2, 2, 1, 0, 8));
    test("2: H 4 can be", () -> can(3, 4, 2, 1, 0, 8));
    test("2: E 0 is too small", () -> { for (int e : new int[] {0, -1, LEAST}) cannot(3, 3, e, 1, 0, 8); });
    test("2: E 5 is too large", () -> { for (int e : new int[] {5, 6, MOST}) cannot(3, 3, e, 1, 0, 8); });
    test("2: E 1 can be with RULE 0", () -> can(3, 3, 1, 1, 0, 8));
    test("2: E 1 can be with RULE 2", () -> can(3, 3, 1, 1, 2, 8));
    test("2: E 1 can't be with RULE 1", () -> cannot(3, 3, 1, 1, 1, 8));
    test("2: E 2 can be with RULE 1", () -> can(3, 3, 2, 1, 1, 8));
    test("2: E 4 can be", () -> { for (int rule = 0; rule < 3; rule++) can(3, 3, 4, 1, rule, 8); });
    test("2: A -1 is too small", () -> { for (int a : new int[] {-1, -2, LEAST}) cannot(3, 3, 2, a, 0, 8); });
    test("2: A 4 is too large", () -> { for (int a : new int[] {4, 5, MOST}) cannot(3, 3, 2, a, 0, 8); });
    test("2: A 0 can be", () -> can(3, 3, 2, 0, 0, 8));
    test("2: A 3 can be", () -> can(3, 3, 2, 3, 0, 8));
    test("2: RULE -1 can't be", () -> { for (int r : new int[] {-1, LEAST}) cannot(3, 3, 2, 1, r, 8); });
    test("2: RULE 3 can't be", () -> { for (int r : new int[] {3, MOST}) cannot(3, 3, 2, 1, r, 8); });
    test("2: RULES 0, 1 and 2 can be", () -> { for (int r = 0; r < 3; r++) can(3, 3, 2, 1, r, 8); });
    test("2: BOUND -1 is too small", () -> { for (int b : new int[] {-1, LEAST}) cannot(3, 3, 2, 1, 0, b); });
    test("2: BOUND 100 is too large", () -> { for (int b : new int[] {100, MOST}) cannot(3, 3, 2, 1, 0, b); });
    test("2: BOUND 0, 1 and 99 can be", () -> { for (int b : new int[] {0, 1, 99}) can(3, 3, 2, 1, 0, b); });
    test("2: the least TORUS", () -> can(2, 2, 1, 0, 0, 0));
    test("2: the greatest TORUS", () -> can(4, 4, 4, 3, 2, 99));
  }
  private static void torusAnew() {
    test("2: a refused TORUS changes nothing", () -> {
      same(() -> { BubbleTorus x = busy(); is(x.torus(4, 4, 1, 1, 1, 8), false); return x; }, BoundariesTest::busy);
      same(() -> { BubbleTorus x = busy(); is(x.torus(2, 2, 2, 4, 1, 8), false); return x; }, BoundariesTest::busy);
    });
    test("2: all is as at first behind a TORUS", () -> {
      same(() -> { BubbleTorus x = busy(); x.torus(3, 3, 2, 1, 2, 1); return x; },
          () -> stated(of(3, 3, 2, 1, 2, 1), busy().look(17)));
      same(() -> { BubbleTorus x = busy(); x.torus(4, 4, 4, 3, 2, 9); return x; },
          () -> stated(of(4, 4, 4, 3, 2, 9), busy().look(17)));
    });
    test("2: nothing stays of packets that came late or OUT OF ORDER", () -> {
      same(() -> { BubbleTorus x = crossing(); x.torus(3, 3, 2, 1, 0, 0); return x; }, () -> of(3, 3, 2, 1, 0, 0));
      same(() -> { BubbleTorus x = lateAtDoor(); x.torus(4, 2, 1, 0, 2, 0); return x; }, () -> of(4, 2, 1, 0, 2, 0));
    });
    test("2: what is SENT behind a TORUS is as the first ones", () -> {
      for (int t = 0; t < 4; t++) {
        int ticks = t;
        same(() -> { BubbleTorus x = busy(); x.torus(3, 3, 2, 0, 0, 0); x.pattern(4, 4); if (ticks > 0) x.tick(ticks); return x; },
            () -> { BubbleTorus x = stated(of(3, 3, 2, 0, 0, 0), busy().look(17)); x.pattern(4, 4); if (ticks > 0) x.tick(ticks); return x; });
      }
      same(() -> { BubbleTorus x = crossing(); x.torus(3, 3, 2, 1, 0, 0); return sent(x, 0, 5, 0, 5, 1, 2); },
          () -> sent(of(3, 3, 2, 1, 0, 0), 0, 5, 0, 5, 1, 2));
      same(() -> { BubbleTorus x = lateAtDoor(); x.torus(4, 2, 1, 1, 0, 0); return sent(x, 0, 2, 1, 3); },
          () -> sent(of(4, 2, 1, 1, 0, 0), 0, 2, 1, 3));
    });
    test("2: STATE stays", () -> {
      BubbleTorus x = stated(new BubbleTorus(), LEAST);
      x.torus(2, 2, 1, 1, 0, 0);
      is(x.look(17), LEAST);
    });
    test("2: a lesser TORUS has no NODES and RINGS of the greater one", () -> {
      BubbleTorus x = of(4, 4, 2, 1, 1, 8);
      x.torus(2, 2, 2, 1, 1, 8);
      none(x.next(4, 0), x.ringOf(4, 0), x.queue(4, 0, 0, NONE), x.node(4, 0), x.ring(8, 0), x.send(0, 4), x.far(0, 4));
      is(x.next(3, 0), 2);
      is(x.ring(7, 0), 3);
    });
    test("2: a greater TORUS has more NODES and RINGS", () -> {
      BubbleTorus x = of(2, 2, 2, 1, 1, 8);
      x.torus(4, 4, 2, 1, 1, 8);
      is(x.next(15, 0), 12);
      is(x.ring(15, 0), 3);
      is(x.send(15, 14), 0);
    });
    test("2: numbers begin with 0 anew", () -> {
      BubbleTorus x = sent(new BubbleTorus(), 0, 1, 2, 3);
      x.torus(3, 3, 2, 1, 1, 8);
      none(x.packet(0, 0));
      is(x.send(7, 8), 0);
    });
    test("2: no MOVES behind a TORUS", () -> {
      BubbleTorus x = ticked(sent(new BubbleTorus(), 0, 1), 1);
      is(x.move(NONE, 0), 1);
      x.torus(3, 3, 2, 1, 1, 8);
      is(x.move(NONE, 0), 0);
      none(x.move(0, 0));
    });
    test("2: CRITICAL is at the least NODE of its RING at first", () -> {
      BubbleTorus x = of(4, 3, 2, 1, 2, 8);
      int[] least = {0, 4, 8, 0, 4, 8, 0, 1, 2, 3, 0, 1, 2, 3};
      for (int r = 0; r < least.length; r++) { is(x.ring(r, 5), least[r]); is(x.ring(r, 1), least[r]); }
    });
  }

  // ---- promise 3

  private static void send() {
    test("3: numbers are from 0 on", () -> { BubbleTorus x = new BubbleTorus(); for (int i = 0; i < 5; i++) is(x.send(i, 8), i); });
    test("3: a DOOR has six places", () -> {
      BubbleTorus x = new BubbleTorus();
      for (int i = 0; i < 6; i++) is(x.send(2, 3), i);
      is(x.queue(2, 0, 0, NONE), 6);
      is(x.queue(2, 0, 0, 5), 5);
    });
    test("3: a full DOOR takes no seventh", () -> {
      BubbleTorus x = sentTimes(new BubbleTorus(), 6, 2, 3);
      none(x.send(2, 3), x.send(2, 8));
      is(x.look(7), 6);
      is(x.queue(2, 0, 0, NONE), 6);
    });
    test("3: what is refused takes no number", () -> {
      BubbleTorus x = sentTimes(new BubbleTorus(), 6, 2, 3);
      none(x.send(2, 3), x.send(4, 4), x.send(9, 0));
      is(x.send(3, 2), 6);
    });
    test("3: a DOOR that one left has a place again", () -> {
      BubbleTorus x = ticked(sentTimes(new BubbleTorus(), 6, 2, 5), 1);
      is(x.queue(2, 0, 0, NONE), 5);
      is(x.send(2, 5), 6);
      none(x.send(2, 5));
    });
    test("3: the 250th is SENT", () -> {
      BubbleTorus x = crowd();
      for (int v = 0; v < 10; v++) is(x.send(v, 15), 240 + v);
      is(x.look(7), 250);
      is(x.packet(249, 0), 9);
    });
    test("3: the 251st is not SENT", () -> {
      BubbleTorus x = crowd();
      for (int v = 0; v < 10; v++) x.send(v, 15);
      none(x.send(12, 15), x.send(0, 1));
      is(x.look(7), 250);
      is(x.node(12, 0), x.node(13, 0));
    });
    test("3: DELIVERED ones count among the 250", () -> {
      BubbleTorus x = crowd();
      for (int v = 0; v < 10; v++) x.send(v, 15);
      x.tick(100);
      is(x.look(8), 250);
      none(x.send(0, 1));
    });
    test("3: FROM -1 can't be", () -> { BubbleTorus x = new BubbleTorus(); none(x.send(-1, 0), x.send(LEAST, 0)); is(x.look(7), 0); });
    test("3: FROM of as many as there are can't be", () -> { BubbleTorus x = new BubbleTorus(); none(x.send(9, 0), x.send(MOST, 0)); is(x.look(7), 0); });
    test("3: TO -1 can't be", () -> { BubbleTorus x = new BubbleTorus(); none(x.send(0, -1), x.send(0, LEAST)); is(x.look(7), 0); });
    test("3: TO of as many as there are can't be", () -> { BubbleTorus x = new BubbleTorus(); none(x.send(0, 9), x.send(0, MOST)); is(x.look(7), 0); });
    test("3: TO is another NODE", () -> { BubbleTorus x = new BubbleTorus(); for (int v = 0; v < 9; v++) none(x.send(v, v)); is(x.look(7), 0); });
    test("3: the last NODE can be FROM and TO", () -> {
      BubbleTorus x = of(4, 4, 2, 1, 1, 8);
      is(x.send(15, 0), 0);
      is(x.send(0, 15), 1);
      none(x.send(16, 0), x.send(0, 16));
    });
    test("3: a refused one changes nothing", () ->
      same(() -> { BubbleTorus x = busy(); none(x.send(4, 4), x.send(9, 1), x.send(1, 9), x.send(-1, 1), x.send(1, -1)); return x; }, BoundariesTest::busy));
    test("3: what send can't send is not lost", () -> {
      BubbleTorus x = sentTimes(new BubbleTorus(), 6, 2, 3);
      none(x.send(2, 3), x.send(2, 2));
      is(x.look(19), 0);
    });
    test("3: BORN is the TICK as it was SENT", () -> {
      BubbleTorus x = sent(new BubbleTorus(), 0, 1);
      x.tick(100);
      x.tick(1);
      sent(x, 0, 1);
      is(x.packet(0, 2), 0);
      is(x.packet(1, 2), 101);
    });
    test("3: it comes behind the others in the DOOR", () -> {
      BubbleTorus x = sent(new BubbleTorus(), 3, 4, 0, 1, 3, 5, 3, 0);
      int[] due = {0, 2, 3};
      for (int i = 0; i < 3; i++) is(x.queue(3, 0, 0, i), due[i]);
    });
  }

  // ---- promise 4

  private static void drawn(int w, int state, int from, int to, int after) {
    BubbleTorus x = stated(of(w, w, 2, 1, 1, 8), state);
    is(x.shower(1), 1);
    is(x.packet(0, 0), from);
    is(x.packet(0, 1), to);
    is(x.look(17), after);
  }
  private static void shower() {
    test("4: n 0 can't be", () -> { BubbleTorus x = new BubbleTorus(); none(x.shower(0), x.shower(-1), x.shower(LEAST)); is(x.look(7), 0); });
    test("4: n 61 can't be", () -> { BubbleTorus x = new BubbleTorus(); none(x.shower(61), x.shower(MOST)); is(x.look(7), 0); });
    test("4: n 1 can be", () -> { BubbleTorus x = new BubbleTorus(); is(x.shower(1), 1); is(x.look(7), 1); });
    test("4: n 60 can be", () -> { BubbleTorus x = new BubbleTorus(); is(x.shower(60) + x.look(19), 60); });
    test("4: no DRAW if n can't be", () -> {
      BubbleTorus x = stated(new BubbleTorus(), 77);
      none(x.shower(0), x.shower(61), x.shower(-1));
      is(x.look(17), 77);
      is(x.look(19), 0);
    });
    // STATE and the two numbers of 24 bits by hand: 1664525 s + 1013904223, by 2 to the 32, by 256
    test("4: the other one, less than the NODE, stays", () -> drawn(3, 0, 5, 1, 1196435762));            // draws 5 and 1
    test("4: the other one, as the NODE, is one more", () -> drawn(3, 4, 3, 4, -1540252714));            // draws 3 and 3
    test("4: the other one, more than the NODE, is one more", () -> drawn(3, 1, 0, 6, 1586005467));      // draws 0 and 5
    test("4: NODE 0 to NODE 1 is the least there is", () -> drawn(3, 41, 0, 1, -11075517));              // draws 0 and 0
    test("4: the last NODE to the one ahead of it", () -> drawn(3, 3, 8, 7, -1929822419));               // draws 8 and 7
    test("4: NODE 0 to the last one is the most there is", () -> drawn(3, 10, 0, 8, 797165516));         // draws 0 and 7
    test("4: a DRAW of 4 and of 3", () -> drawn(2, 14, 0, 3, -1939522960));                              // draws 0 and 2
    test("4: a DRAW of 16 and of 15", () -> drawn(4, 441, 15, 14, 1197983827));                          // draws 15 and 14
    test("4: STATE wraps", () -> drawn(3, MOST, 6, 4, -1340617591));      // -1135243950: 12342669, then 11540428
    test("4: STATE wraps from the least int", () -> drawn(3, LEAST, 1, 2, -951047886));      // 12349171, then 13062185
    test("4: STATE -1", () -> drawn(3, -1, 1, 5, 806866057));              // 3954061 is 1, 3151820 is 4, and one more
    test("4: the highest 24 bits have no sign", () -> {
      BubbleTorus x = stated(new BubbleTorus(), MOST);                     // -1135243950 >>> 8 is 12342669: 6
      is(x.shower(1), 1);
      is(x.packet(0, 0), 6);
    });
    test("4: what a full DOOR refuses is lost, but drawn", () -> {
      BubbleTorus x = sentTimes(new BubbleTorus(), 6, 5, 0);               // the first one of STATE 0 is from 5
      is(x.shower(1), 0);
      is(x.look(19), 1);
      is(x.look(17), 1196435762);
      is(x.look(7), 6);
    });
    test("4: what comes behind the 250 is lost", () -> {
      BubbleTorus x = crowd();
      is(x.shower(12), 10);
      is(x.look(7), 250);
      is(x.look(19), 2);
      is(x.shower(60), 0);
      is(x.look(19), 62);
    });
    test("4: a SHOWER says how many were SENT, not drawn", () -> {
      BubbleTorus x = new BubbleTorus();
      int sent = 0;
      for (int i = 0; i < 3; i++) sent += x.shower(60);
      is(x.look(7), sent);
      is(x.look(19), 180 - sent);
      is(sent <= 54, true);                                                // nine DOORS of six
    });
  }

  // ---- promise 5

  private static void aims(int w, int h, int kind, int... due) {
    BubbleTorus x = of(w, h, 2, 1, 1, 8);
    int sent = 0;
    for (int v = 0; v < due.length; v++) if (due[v] != v) sent++;
    is(x.pattern(kind, NONE), sent);
    int p = 0;
    for (int v = 0; v < due.length; v++) {
      if (due[v] == v) { is(x.node(v, 0), 0); continue; }
      is(x.packet(p, 0), v);
      is(x.packet(p, 1), due[v]);
      p++;
    }
    is(x.look(19), 0);
  }
  private static void pattern() {
    test("5: kind -1 can't be", () -> { BubbleTorus x = new BubbleTorus(); none(x.pattern(-1, 0), x.pattern(LEAST, 0)); is(x.look(7), 0); });
    test("5: kind 5 can't be", () -> { BubbleTorus x = new BubbleTorus(); none(x.pattern(5, 0), x.pattern(MOST, 0)); is(x.look(7), 0); });
    test("5: kind 4 to NODE -1 can't be", () -> { BubbleTorus x = new BubbleTorus(); none(x.pattern(4, -1), x.pattern(4, LEAST)); is(x.look(7) + x.look(19), 0); });
    test("5: kind 4 to as many as there are can't be", () -> { BubbleTorus x = new BubbleTorus(); none(x.pattern(4, 9), x.pattern(4, MOST)); is(x.look(7) + x.look(19), 0); });
    test("5: kind 4 to the first NODE can be", () -> is(new BubbleTorus().pattern(4, 0), 8));
    test("5: kind 4 to the last NODE can be", () -> is(new BubbleTorus().pattern(4, 8), 8));
    test("5: node is of kind 4 alone", () -> {
      for (int node : new int[] {-1, 9, LEAST, MOST}) {
        is(new BubbleTorus().pattern(0, node), 9);
        is(new BubbleTorus().pattern(1, node), 8);
        is(new BubbleTorus().pattern(2, node), 6);
        is(new BubbleTorus().pattern(3, node), 9);
      }
    });
    test("5: a refused one changes nothing", () ->
      same(() -> { BubbleTorus x = busy(); none(x.pattern(-1, 0), x.pattern(5, 0), x.pattern(4, 9), x.pattern(4, -1)); return x; }, BoundariesTest::busy));
    test("5: half of three columns is one (downwards)", () -> aims(3, 2, 0, 4, 5, 3, 1, 2, 0));
    test("5: half of three rows is one (downwards)", () -> aims(2, 3, 0, 3, 2, 5, 4, 1, 0));
    test("5: half of four is two, round", () -> aims(4, 4, 0, 10, 11, 8, 9, 14, 15, 12, 13, 2, 3, 0, 1, 6, 7, 4, 5));
    test("5: half of two is one", () -> aims(2, 2, 0, 3, 2, 1, 0));
    test("5: the other end, and the middle one nothing", () -> aims(3, 3, 1, 8, 7, 6, 5, 4, 3, 2, 1, 0));
    test("5: the other end of an even number", () -> aims(2, 2, 1, 3, 2, 1, 0));
    test("5: columns and rows changed, round by W", () -> aims(2, 4, 2, 0, 2, 1, 3, 0, 2, 1, 3));
    test("5: columns and rows changed, round by H", () -> aims(4, 2, 2, 0, 4, 0, 4, 1, 5, 1, 5));
    test("5: the next one is round at the end of a row", () -> aims(4, 2, 3, 1, 2, 3, 0, 5, 6, 7, 4));
    test("5: to itself is nothing, and not lost", () -> {
      BubbleTorus x = sentTimes(new BubbleTorus(), 6, 4, 0);
      is(x.pattern(1, 0), 8);
      is(x.pattern(4, 4), 8);
      is(x.look(19), 0);
    });
    test("5: what a full DOOR refuses is lost", () -> {
      BubbleTorus x = sentTimes(new BubbleTorus(), 6, 4, 0);
      is(x.pattern(3, 0), 8);
      is(x.look(19), 1);
      for (int i = 0; i < 5; i++) x.pattern(4, 4);
      is(x.pattern(4, 4), 0);
      is(x.look(19), 9);
    });
    test("5: what comes behind the 250 is lost", () -> {
      BubbleTorus x = crowd();
      is(x.pattern(3, 0), 10);
      is(x.look(7), 250);
      is(x.look(19), 6);
      is(x.packet(249, 0), 9);
    });
    test("5: each NODE in turn", () -> {
      BubbleTorus x = new BubbleTorus();
      x.pattern(3, 0);
      for (int v = 0; v < 9; v++) is(x.packet(v, 0), v);
    });
  }

  // ---- promise 6

  private static void tick() {
    test("6: n 0 can't be", () -> { BubbleTorus x = new BubbleTorus(); none(x.tick(0), x.tick(-1), x.tick(LEAST)); is(x.look(6), 0); });
    test("6: n 101 can't be", () -> { BubbleTorus x = new BubbleTorus(); none(x.tick(101), x.tick(MOST)); is(x.look(6), 0); });
    test("6: n 1 can be", () -> { BubbleTorus x = new BubbleTorus(); is(x.tick(1), 0); is(x.look(6), 1); });
    test("6: n 100 can be", () -> { BubbleTorus x = new BubbleTorus(); is(x.tick(100), 0); is(x.look(6), 100); });
    test("6: a refused one changes nothing", () ->
      same(() -> { BubbleTorus x = busy(); none(x.tick(0), x.tick(101), x.tick(-1)); return x; }, BoundariesTest::busy));
    test("6: those of all n TICKS are counted", () -> {
      BubbleTorus x = sentTimes(of(3, 3, 2, 0, 0, 0), 4, 0, 1);
      is(x.tick(1), 0);                                                    // one a tick from the second one on
      is(x.tick(3), 3);
      is(x.tick(5), 1);
    });
    test("6: of a queue only the first one is DELIVERED in a TICK", () -> {
      // 3, for node 4, waits in node 1 for the link of direction 2; 4 and 5, for node 1, come behind it
      BubbleTorus x = sent(of(3, 3, 4, 0, 0, 0), 1, 4, 1, 4, 1, 4, 0, 4, 0, 1, 0, 1);
      is(x.tick(4), 3);
      is(x.queue(1, 1, 0, 0), 4);
      is(x.queue(1, 1, 0, 1), 5);
      is(x.tick(1), 2);                                                    // 3 in node 4, 4 in node 1
      is(x.packet(5, 3), 1);
      is(x.tick(1), 1);
    });
    test("6: one that is not first is not DELIVERED though it is in its TO", () -> {
      BubbleTorus x = sent(of(3, 3, 4, 0, 0, 0), 1, 4, 1, 4, 1, 4, 0, 4, 0, 1);
      x.tick(3);                                                           // 4 came by the second tick
      is(x.queue(1, 1, 0, 1), 4);
      is(x.packet(4, 4), 1);
      is(x.packet(4, 3), 1);
    });
    test("6: what arrives in a TICK is DELIVERED in the next one", () -> {
      BubbleTorus x = sent(of(3, 3, 2, 1, 0, 0), 0, 1);
      is(x.tick(1), 0);
      is(x.packet(0, 4), 1);
      is(x.tick(1), 1);
      is(x.packet(0, 7), 1);
    });
    test("6: the first NODE is TICK modulo NODES", () -> {
      BubbleTorus x = ticked(of(2, 2, 2, 0, 0, 0), 2);
      sent(x, 0, 1, 1, 0, 2, 3, 3, 2);
      x.tick(1);
      int[] due = {2, 3, 0, 1};
      for (int i = 0; i < 4; i++) is(x.move(i, 1), due[i]);
    });
    test("6: behind the last NODE comes NODE 0", () -> {
      BubbleTorus x = ticked(of(2, 2, 2, 0, 0, 0), 3);
      sent(x, 0, 1, 3, 2);
      x.tick(1);
      is(x.move(0, 1), 3);
      is(x.move(1, 1), 0);
    });
    test("6: as TICK is NODES, NODE 0 is first again", () -> {
      BubbleTorus x = ticked(of(2, 2, 2, 0, 0, 0), 4);
      sent(x, 0, 1, 3, 2);
      x.tick(1);
      is(x.move(0, 1), 0);
      is(x.move(1, 1), 3);
    });
    test("6: the greatest TORUS, with MARKS in all its RINGS", () -> {
      BubbleTorus x = of(4, 4, 4, 3, 2, 1);
      for (int i = 0; i < 6; i++) is(x.pattern(0, 0), 16);
      is(x.tick(100), 96);
      for (int r = 0; r < 16; r++) none(x.ring(r, 6));
    });
    test("6: TICK is one more by each", () -> {
      BubbleTorus x = new BubbleTorus();
      for (int i = 0; i < 5; i++) { is(x.look(6), 101 * i); x.tick(100); x.tick(1); }
    });
  }
  private static void whatGoes() {
    test("6: what went does not go again in its TICK", () -> {
      BubbleTorus x = ticked(sent(of(4, 2, 2, 0, 0, 0), 0, 2), 1);
      is(x.packet(0, 4), 1);
      is(x.move(NONE, 0), 1);
      x.tick(1);
      is(x.packet(0, 4), 2);
    });
    test("6: by one DIRECTION one goes", () -> {
      BubbleTorus x = ticked(sentTimes(of(3, 3, 2, 1, 0, 0), 2, 0, 1), 1);
      is(x.move(NONE, 0), 1);
      is(x.node(0, 0), 1);
    });
    test("6: what is first then goes in the same TICK by another DIRECTION", () -> {
      BubbleTorus x = ticked(sent(of(3, 3, 2, 0, 0, 0), 0, 1, 0, 3), 1);
      is(x.move(NONE, 0), 2);
      is(x.move(1, 0), 1);
      is(x.move(1, 2), 2);
    });
    test("6: a DIRECTION that was looked at does not come again in its TICK", () -> {
      BubbleTorus x = ticked(sent(of(3, 3, 2, 0, 0, 0), 0, 3, 0, 1), 1);   // 2 is behind 0
      is(x.move(NONE, 0), 1);
      is(x.packet(1, 3), 0);
    });
    test("6: the eldest BORN goes", () -> {
      BubbleTorus x = ticked(sent(of(3, 3, 2, 0, 0, 0), 0, 4), 1);
      sent(x, 1, 4);                                                       // in the door of 1, which is looked at first
      x.tick(1);
      is(x.move(0, 0), 0);
      is(x.packet(1, 3), 0);
    });
    test("6: of several BORN in one TICK the least number goes", () -> {
      BubbleTorus x = ticked(sent(of(3, 3, 2, 0, 0, 0), 0, 4, 1, 4, 1, 4), 1);
      x.tick(1);                                                           // 0 in the escape queue, 2 in the door
      is(x.move(0, 0), 0);
      is(x.packet(2, 3), 0);
    });
    test("6: what CONTINUES goes ahead of an elder one", () -> {
      BubbleTorus x = ticked(sent(of(4, 2, 2, 0, 0, 0), 1, 2, 1, 2, 0, 2), 1);
      x.tick(1);
      is(x.packet(2, 4), 2);
      is(x.packet(1, 4), 1);
    });
    test("6: what can't go is not chosen, though it is the eldest", () -> {
      // 0 may not enter node 0, where CRITICAL is, and 2, PROFITABLE too, has no ADAPTIVE place: 1 goes by 2
      BubbleTorus x = ticked(sent(of(3, 3, 1, 0, 2, 0), 2, 3, 0, 5), 1);
      is(x.packet(1, 4), 2);
      x.tick(1);
      is(x.packet(0, 3), 0);
      is(x.move(NONE, 0), 1);
      is(x.move(0, 0), 1);
      is(x.move(0, 2), 2);
    });
    test("6: MOVES of an idle TICK are none", () -> {
      BubbleTorus x = ticked(sent(of(3, 3, 2, 0, 0, 0), 0, 1), 1);
      is(x.move(NONE, 0), 1);
      x.tick(1);
      is(x.move(NONE, 0), 0);
      none(x.move(0, 0));
    });
  }
  private static void lanesAndRules() {
    test("6: an ESCAPE queue holds E, and no more", () -> {
      for (int e = 1; e <= 4; e++) {                                       // those of node 1 are first by its link to 4
        BubbleTorus x = sentTimes(sentTimes(of(3, 3, e, 0, 0, 0), 6, 1, 4), 6, 0, 4);
        x.tick(e);
        is(x.queue(1, 1, 0, NONE), e);
        x.tick(1);
        is(x.queue(1, 1, 0, NONE), e);
        is(x.node(0, 0), 6 - e);
        none(x.queue(1, 1, 0, e));
      }
    });
    test("6: an ADAPTIVE queue holds A, and no more", () -> {
      for (int a = 1; a <= 3; a++) {
        BubbleTorus x = sentTimes(sentTimes(of(3, 3, 2, a, 0, 0), 6, 1, 4), 6, 0, 4);
        x.tick(a);
        is(x.queue(1, 2, 0, NONE), a);
        is(x.queue(1, 1, 0, NONE), 0);
        sent(x, 0, 4);
        x.tick(1);
        is(x.queue(1, 2, 0, NONE), a);
        is(x.queue(1, 1, 0, NONE), 1);                                     // it can't by ADAPTIVE: by ESCAPE
        none(x.queue(1, 2, 0, a));
      }
    });
    test("6: with A 0 all go by ESCAPE", () -> {
      BubbleTorus x = ticked(sent(of(3, 3, 2, 0, 0, 0), 0, 4), 1);
      is(x.move(0, 3), 1);
      is(x.queue(1, 1, 0, NONE), 1);
      is(x.look(14), 0);
    });
    test("6: by ADAPTIVE, if it can", () -> {
      BubbleTorus x = ticked(sent(of(3, 3, 4, 1, 0, 0), 0, 1), 1);
      is(x.move(0, 3), 2);
      is(x.look(11), 1);
    });
    test("6: by ESCAPE in the ESCAPE DIRECTION alone", () -> {
      BubbleTorus x = ticked(sentTimes(of(3, 3, 2, 0, 0, 0), 2, 0, 4), 1); // 2 is nearer, too, but not by ESCAPE
      is(x.move(NONE, 0), 1);
      is(x.link(0, 2), 0);
    });
    test("6: by ADAPTIVE in a PROFITABLE DIRECTION alone", () -> {
      BubbleTorus x = ticked(sentTimes(of(3, 3, 2, 3, 0, 0), 6, 0, 1), 1);
      is(x.move(NONE, 0), 1);
      for (int d = 1; d < 4; d++) is(x.link(0, d), 0);
    });
    test("6: RULE 0 needs one place", () -> {
      BubbleTorus x = heldInOne(0, 2);                                     // one place of two is free in node 1
      is(x.enters(0, 0), 1);
      x.tick(1);
      is(x.queue(1, 1, 0, NONE), 2);
      is(x.enters(0, 0), 0);
    });
    test("6: RULE 1 needs two places", () -> {
      BubbleTorus x = heldInOne(1, 2);
      is(x.enters(0, 0), 0);
      x.tick(1);
      is(x.queue(1, 1, 0, NONE), 1);
      x = heldInOne(1, 3);
      is(x.enters(0, 0), 1);
      x.tick(1);
      is(x.queue(1, 1, 0, NONE), 2);
    });
    test("6: RULE 2 needs one place where CRITICAL is not", () -> {
      BubbleTorus x = heldInOne(2, 2);                                     // CRITICAL is at node 0
      is(x.enters(0, 0), 1);
      x.tick(1);
      is(x.queue(1, 1, 0, NONE), 2);
      is(x.enters(0, 0), 0);
    });
    test("6: RULE 2 needs two places where CRITICAL is", () -> {
      BubbleTorus x = ticked(sent(of(3, 3, 1, 0, 2, 0), 2, 0, 1, 2), 1);
      is(x.packet(0, 3), 0);
      is(x.packet(1, 3), 1);
      is(x.enters(2, 0), 0);
      x = of(3, 3, 2, 0, 2, 0);
      is(x.enters(2, 0), 1);
      sent(x, 0, 3, 0, 3, 0, 3, 2, 3, 2, 3);
      x.tick(1);
      is(x.queue(0, 1, 0, NONE), 1);                                       // it waits for the link of node 0 to 3
      is(x.enters(2, 0), 0);
      x.tick(1);
      is(x.queue(0, 1, 0, NONE), 1);
    });
    test("6: what CONTINUES needs one place with RULE 1", () -> {
      // 6 (from 0) and 7 (from 3, through 0) wait in node 1 for its link to 5; 7 took the last place
      BubbleTorus x = sent(sentTimes(of(4, 2, 2, 0, 1, 0), 6, 1, 5), 0, 5, 3, 5);
      x.tick(2);
      is(x.queue(1, 1, 0, 0), 6);
      is(x.queue(1, 1, 0, 1), 7);
      is(x.move(1, 4) + x.move(0, 4), 3);                                  // one ENTERED (node 1), one CONTINUED
    });
    test("6: what CONTINUES needs one place", () -> {
      BubbleTorus x = ticked(circle(), 1);                                 // all four places are taken
      x.tick(1);
      is(x.move(NONE, 0), 0);
      is(x.look(10), 4);
    });
    test("6: what is BARRED does not ENTER", () -> {
      BubbleTorus x = sent(barredForGood(), 1, 3, 1, 3, 1, 3);
      x.tick(3);                                                           // by 0 and by 1 to 3, both ADAPTIVE
      is(x.link(1, 0) > 0, true);
      is(x.ring(0, 9), 0);
      is(x.enters(1, 0), 0);
    });
    test("6: what is BARRED goes by ADAPTIVE", () -> {
      BubbleTorus x = sent(barredForGood(), 1, 2);
      is(x.tick(2), 1);
      is(x.packet(x.look(7) - 1, 8), 0);
    });
    test("6: what is BARRED CONTINUES", () -> {
      // with A 0: 4 and 5 of node 0 are hungry as 0 to 3 of node 1 go first; then node 1 is BARRED for good
      BubbleTorus x = sent(of(4, 2, 2, 0, 1, 2), 1, 5, 1, 5, 1, 5, 1, 5, 0, 5, 0, 5, 0, 5);
      x.tick(4);
      x.bound(0);
      x.tick(9);
      is(x.look(8), 7);
      is(x.ring(0, 8), 2);
      sent(x, 0, 2, 1, 2);
      x.tick(3);
      is(x.packet(7, 3), 3);
      is(x.packet(8, 3), 0);
      is(x.packet(8, 4), 1);
    });
  }
  /** One packet from 0 waits in node 1 for the link to 4, a second one is in the door of 0; the rest of E is free. */
  private static BubbleTorus heldInOne(int rule, int e) {
    BubbleTorus x = ticked(sent(of(3, 3, e, 0, rule, 0), 1, 4, 1, 4, 1, 4, 0, 4, 0, 4), 1);
    is(x.queue(1, 1, 0, NONE), 1);
    return x;
  }
  private static void critical() {
    test("6: CRITICAL goes against what CONTINUES into its last place", () -> {
      BubbleTorus x = ticked(sent(of(4, 2, 1, 0, 2, 0), 2, 0), 1);
      is(x.ring(0, 5), 0);
      x.tick(1);
      is(x.ring(0, 5), 3);                                                 // round: from 0 back to 3
    });
    test("6: CRITICAL stays while another place is free there", () -> {
      BubbleTorus x = ticked(sent(of(4, 2, 2, 0, 2, 0), 2, 0), 2);
      is(x.packet(0, 4), 0);
      is(x.ring(0, 5), 0);
    });
    test("6: CRITICAL stays if the last place of another NODE is taken", () -> {
      BubbleTorus x = ticked(sent(of(4, 2, 1, 0, 2, 0), 0, 2), 2);
      is(x.packet(0, 4), 2);
      is(x.ring(0, 5), 0);
    });
    test("6: CRITICAL stays as what took its place leaves", () -> {
      BubbleTorus x = ticked(sent(of(4, 2, 1, 0, 2, 0), 2, 0), 3);
      is(x.look(8), 1);
      is(x.ring(0, 5), 3);
      is(x.enters(2, 0), 0);
      is(x.enters(3, 0), 1);
    });
    test("6: CRITICAL stays if the place is taken by ADAPTIVE", () -> {
      BubbleTorus x = ticked(sent(of(4, 2, 1, 1, 2, 0), 2, 0), 2);
      is(x.packet(0, 4), 0);
      is(x.ring(0, 5), 0);
    });
    test("6: with RULE 0 there is no CRITICAL", () -> {
      BubbleTorus x = ticked(sent(of(4, 2, 1, 0, 0, 0), 2, 0), 2);
      none(x.ring(0, 5));
      is(x.enters(2, 0), 1);
      is(of(4, 2, 1, 0, 0, 0).enters(3, 0), 1);
    });
  }

  // ---- promises 7 and 8

  private static void stateAndBound() {
    test("7: it answers what STATE was", () -> {
      BubbleTorus x = new BubbleTorus();
      is(x.state(5), 0);
      is(x.state(-7), 5);
      is(x.state(0), -7);
    });
    test("7: any int can be STATE", () -> {
      BubbleTorus x = new BubbleTorus();
      for (int v : new int[] {LEAST, MOST, -1, 0}) { x.state(v); is(x.look(17), v); }
    });
    test("7: STATE goes on from what was told", () -> {
      BubbleTorus x = stated(new BubbleTorus(), 4);
      x.shower(1);
      is(x.packet(0, 0), 3);
      is(x.state(4), -1540252714);
    });
    test("8: BOUND -1 can't be", () -> { BubbleTorus x = new BubbleTorus(); is(x.bound(-1), false); is(x.bound(LEAST), false); is(x.look(5), 8); });
    test("8: BOUND 100 can't be", () -> { BubbleTorus x = new BubbleTorus(); is(x.bound(100), false); is(x.bound(MOST), false); is(x.look(5), 8); });
    test("8: BOUND 0 can be", () -> { BubbleTorus x = new BubbleTorus(); is(x.bound(0), true); is(x.look(5), 0); });
    test("8: BOUND 1 can be", () -> { BubbleTorus x = new BubbleTorus(); is(x.bound(1), true); is(x.look(5), 1); });
    test("8: BOUND 99 can be", () -> { BubbleTorus x = new BubbleTorus(); is(x.bound(99), true); is(x.look(5), 99); });
    test("8: a refused one changes nothing", () ->
      same(() -> { BubbleTorus x = busy(); is(x.bound(-1), false); is(x.bound(100), false); return x; }, BoundariesTest::busy));
    test("8: MARKS stay", () -> {
      for (int v : new int[] {0, 99}) {
        BubbleTorus x = ticked(hungry(1), 2);
        is(x.ring(0, 8), 2);
        x.bound(v);
        is(x.ring(0, 6), 0);
        is(x.ring(0, 7), 1);
        is(x.ring(0, 8), 2);
        is(x.look(16), 1);
      }
    });
    test("8: a MARK goes on though HUNGER is less than a new BOUND", () -> {
      BubbleTorus x = ticked(hungry(1), 2);
      x.bound(99);
      x.tick(1);
      is(x.ring(0, 7), 2);
      is(x.ring(0, 8), 6);
    });
  }

  // ---- promise 9

  private static void packet() {
    test("9: there is no PACKET -1", () -> { BubbleTorus x = sent(new BubbleTorus(), 0, 1); for (int k = 0; k < 11; k++) none(x.packet(-1, k), x.packet(LEAST, k)); });
    test("9: there is no PACKET of as many as there are", () -> { BubbleTorus x = sent(new BubbleTorus(), 0, 1); for (int k = 0; k < 11; k++) none(x.packet(1, k), x.packet(MOST, k)); });
    test("9: what -1 can't be", () -> { BubbleTorus x = sent(new BubbleTorus(), 0, 1); none(x.packet(0, -1), x.packet(0, LEAST)); });
    test("9: what 11 can't be", () -> { BubbleTorus x = sent(new BubbleTorus(), 0, 1); none(x.packet(0, 11), x.packet(0, MOST)); });
    test("9: the last PACKET can be asked", () -> { BubbleTorus x = sent(new BubbleTorus(), 0, 1, 7, 3); is(x.packet(1, 0), 7); is(x.packet(1, 1), 3); });
    test("9: in a DOOR it came by no DIRECTION", () -> { BubbleTorus x = sent(new BubbleTorus(), 0, 1); none(x.packet(0, 5)); is(x.packet(0, 3), 0); is(x.packet(0, 4), 0); });
    test("9: not yet DELIVERED it has no TICK of that", () -> {
      BubbleTorus x = sent(new BubbleTorus(), 0, 1);
      none(x.packet(0, 7));
      x.tick(1);
      none(x.packet(0, 7));
      x.tick(1);
      is(x.packet(0, 7), 1);
    });
    test("9: in a DOOR it has no TICK of having left that", () -> { BubbleTorus x = sent(new BubbleTorus(), 0, 1, 0, 1); x.tick(1); none(x.packet(1, 10)); });
    test("9: it can leave its DOOR in TICK 0", () -> { BubbleTorus x = ticked(sent(new BubbleTorus(), 0, 1), 2); is(x.packet(0, 10), 0); });
    test("9: the TICK in which it left its DOOR stays", () -> { BubbleTorus x = ticked(sent(of(4, 4, 2, 0, 0, 0), 0, 10), 6); is(x.packet(0, 6), 4); is(x.packet(0, 10), 0); });
    test("9: where it is, lane by lane", () -> {
      BubbleTorus x = sentTimes(sentTimes(of(3, 3, 2, 1, 0, 0), 6, 1, 4), 6, 0, 4);
      x.tick(2);
      is(x.packet(5, 3), 0);
      is(x.packet(x.queue(1, 1, 0, 0), 3), 1);
      is(x.packet(x.queue(1, 2, 0, 0), 3), 2);
      is(x.packet(0, 3), 3);
    });
    test("9: DELIVERED it is in its TO, by its last DIRECTION", () -> {
      BubbleTorus x = ticked(sent(of(4, 2, 2, 0, 0, 0), 0, 6), 4);
      is(x.packet(0, 3), 3);
      is(x.packet(0, 4), 6);
      is(x.packet(0, 5), 2);
    });
    test("9: it ENTERED as often as it came into a RING", () -> {
      BubbleTorus x = sent(of(4, 4, 2, 0, 0, 0), 0, 10);
      int[] due = {1, 1, 2, 2, 2};
      for (int i = 0; i < 5; i++) { x.tick(1); is(x.packet(0, 8), due[i]); }
    });
    test("9: by ADAPTIVE it ENTERED nothing", () -> { BubbleTorus x = ticked(sent(of(4, 4, 2, 1, 0, 0), 0, 10), 6); is(x.packet(0, 6), 4); is(x.packet(0, 8), 0); });
    test("9: HOPS are 0 to FAR", () -> {
      BubbleTorus x = sent(of(4, 4, 2, 0, 0, 0), 0, 10);
      for (int i = 0; i < 7; i++) { is(x.packet(0, 6), Math.min(i, 4)); x.tick(1); }
    });
  }
  /** Both from 0 to 5: 0 by 2, 1 by 3; both come to 5 in one TICK, and the queue of direction 1 is ahead of that of 2. */
  private static BubbleTorus crossing() { return ticked(sent(of(3, 3, 2, 1, 0, 0), 0, 5, 0, 5), 3); }
  private static void outOfOrder() {
    test("9: OUT OF ORDER is one that is DELIVERED behind a later one", () -> { is(crossing().packet(0, 9), 1); is(crossing().packet(1, 9), 0); });
    test("18: OUT OF ORDER is not one whose pair has none later", () -> {
      BubbleTorus x = ticked(sent(of(3, 3, 2, 1, 0, 0), 0, 5, 2, 5, 0, 2), 6);
      for (int p = 0; p < 3; p++) is(x.packet(p, 9), 0);
      is(x.look(18), 0);
    });
    test("22: OUT OF ORDER is of FROM and TO both", () -> {
      BubbleTorus x = ticked(sent(of(3, 3, 2, 0, 0, 0), 0, 4, 1, 4), 2);   // 1 is delivered ahead of 0, of another FROM
      x.tick(4);
      is(x.packet(1, 7) < x.packet(0, 7), true);
      is(x.packet(0, 9), 0);
      x = ticked(sent(of(4, 2, 2, 1, 0, 0), 0, 6, 0, 1), 6);               // the same FROM, another TO
      is(x.packet(1, 7) < x.packet(0, 7), true);
      is(x.packet(0, 9), 0);
    });
    test("9: what is SENT later and DELIVERED later leaves both in order", () -> {
      BubbleTorus x = ticked(sent(of(3, 3, 2, 1, 0, 0), 0, 1, 0, 1), 4);
      is(x.packet(0, 9) + x.packet(1, 9), 0);
    });
    test("9: what is still on its way is not OUT OF ORDER", () -> {
      BubbleTorus x = sent(crossing(), 0, 5);
      is(x.packet(2, 9), 0);
      is(x.pair(0, 5, 2), 1);
    });
  }

  // ---- promise 10

  private static void queue() {
    test("10: i NONE is how many, 0 at first", () -> {
      BubbleTorus x = new BubbleTorus();
      is(x.queue(0, 0, 0, NONE), 0);
      for (int d = 0; d < 4; d++) { is(x.queue(8, 1, d, NONE), 0); is(x.queue(8, 2, d, NONE), 0); }
    });
    test("10: i of as many as there are is none", () -> {
      BubbleTorus x = sent(new BubbleTorus(), 0, 1, 0, 2);
      is(x.queue(0, 0, 0, 1), 1);
      none(x.queue(0, 0, 0, 2), x.queue(0, 0, 0, MOST));
    });
    test("10: i -2 is none", () -> { BubbleTorus x = sent(new BubbleTorus(), 0, 1, 0, 2); none(x.queue(0, 0, 0, -2), x.queue(0, 0, 0, LEAST)); });
    test("10: an empty queue has no first one", () -> { BubbleTorus x = new BubbleTorus(); none(x.queue(0, 0, 0, 0), x.queue(0, 1, 0, 0), x.queue(0, 2, 3, 0)); });
    test("10: a DOOR has d 0 alone", () -> { BubbleTorus x = sent(new BubbleTorus(), 0, 1); for (int d : new int[] {1, 2, 3, 4, -1}) none(x.queue(0, 0, d, NONE), x.queue(0, 0, d, 0)); });
    test("10: lane -1 is none", () -> { BubbleTorus x = sent(new BubbleTorus(), 0, 1); none(x.queue(0, -1, 0, NONE), x.queue(0, LEAST, 0, NONE), x.queue(0, -1, 0, 0)); });
    test("10: lane 3 is none", () -> { BubbleTorus x = new BubbleTorus(); none(x.queue(0, 3, 0, NONE), x.queue(0, MOST, 0, NONE)); });
    test("10: d -1 is none", () -> { BubbleTorus x = new BubbleTorus(); for (int lane = 0; lane < 3; lane++) none(x.queue(0, lane, -1, NONE), x.queue(0, lane, LEAST, NONE)); });
    test("10: d 4 is none", () -> { BubbleTorus x = new BubbleTorus(); for (int lane = 0; lane < 3; lane++) none(x.queue(0, lane, 4, NONE), x.queue(0, lane, MOST, NONE)); });
    test("10: NODE -1 is none", () -> { BubbleTorus x = new BubbleTorus(); for (int lane = 0; lane < 3; lane++) none(x.queue(-1, lane, 0, NONE), x.queue(LEAST, lane, 0, NONE)); });
    test("10: a NODE of as many as there are is none", () -> { BubbleTorus x = new BubbleTorus(); for (int lane = 0; lane < 3; lane++) none(x.queue(9, lane, 0, NONE), x.queue(MOST, lane, 0, NONE)); });
    test("10: with A 0 an ADAPTIVE queue has none", () -> { BubbleTorus x = of(3, 3, 2, 0, 0, 0); is(x.queue(0, 2, 0, NONE), 0); none(x.queue(0, 2, 0, 0)); });
    test("10: first in, first out", () -> {
      BubbleTorus x = sent(new BubbleTorus(), 0, 1, 0, 2, 0, 3);
      x.tick(1);                                                           // by 0, 1 and 2, one behind the other
      is(x.move(NONE, 0), 3);
      for (int i = 0; i < 3; i++) is(x.move(i, 0), i);
      x = sentTimes(sentTimes(of(3, 3, 4, 0, 0, 0), 4, 1, 4), 4, 0, 4);
      x.tick(3);
      for (int i = 0; i < 3; i++) is(x.queue(1, 1, 0, i), 4 + i);
      x.tick(2);
      is(x.queue(1, 1, 0, 0), 5);
    });
    test("10: a queue is of what came by its DIRECTION", () -> {
      BubbleTorus x = ticked(sent(of(2, 2, 2, 1, 0, 0), 0, 1, 0, 1, 0, 2, 0, 2), 1);
      is(x.queue(1, 2, 0, 0), 0);                                          // both 0 and 1 lead to node 1
      is(x.queue(1, 2, 1, 0), 1);
      is(x.queue(2, 2, 2, 0), 2);
      is(x.queue(2, 2, 3, 0), 3);
    });
  }

  // ---- promises 11 to 14 and 16

  private static void shape() {
    test("11: a column more is round", () -> { BubbleTorus x = of(4, 3, 2, 1, 1, 8); is(x.next(6, 0), 7); is(x.next(7, 0), 4); });
    test("11: a column less is round", () -> { BubbleTorus x = of(4, 3, 2, 1, 1, 8); is(x.next(5, 1), 4); is(x.next(4, 1), 7); });
    test("11: a row more is round", () -> { BubbleTorus x = of(4, 3, 2, 1, 1, 8); is(x.next(5, 2), 9); is(x.next(9, 2), 1); });
    test("11: a row less is round", () -> { BubbleTorus x = of(4, 3, 2, 1, 1, 8); is(x.next(5, 3), 1); is(x.next(1, 3), 9); });
    test("11: of two both ways are to the other one", () -> { BubbleTorus x = of(2, 2, 2, 1, 1, 8); is(x.next(0, 0), 1); is(x.next(0, 1), 1); is(x.next(0, 2), 2); is(x.next(0, 3), 2); });
    test("11: no such NODE", () -> { BubbleTorus x = new BubbleTorus(); for (int d = 0; d < 4; d++) none(x.next(-1, d), x.next(9, d), x.next(LEAST, d), x.next(MOST, d)); });
    test("11: no such DIRECTION", () -> { BubbleTorus x = new BubbleTorus(); none(x.next(0, -1), x.next(0, 4), x.next(8, LEAST), x.next(8, MOST)); });
    test("12: FAR of a NODE from itself is 0", () -> { for (int v = 0; v < 9; v++) is(new BubbleTorus().far(v, v), 0); });
    test("12: FAR is round", () -> { BubbleTorus x = of(4, 4, 2, 1, 1, 8); is(x.far(0, 3), 1); is(x.far(3, 0), 1); is(x.far(0, 12), 1); is(x.far(0, 15), 2); });
    test("12: FAR is 4 at most", () -> { BubbleTorus x = of(4, 4, 2, 1, 1, 8); is(x.far(0, 10), 4); is(x.far(15, 5), 4); is(x.far(0, 2), 2); });
    test("12: no such NODE", () -> { BubbleTorus x = new BubbleTorus(); none(x.far(-1, 0), x.far(0, -1), x.far(9, 0), x.far(0, 9), x.far(9, 9), x.far(MOST, LEAST)); });
    test("13: nothing is PROFITABLE in its TO", () -> { for (int v = 0; v < 9; v++) is(new BubbleTorus().profitable(v, v), 0); });
    test("13: both ways are PROFITABLE if they are as long", () -> {
      BubbleTorus x = of(4, 2, 2, 1, 1, 8);
      is(x.profitable(0, 2), 3);
      is(x.profitable(0, 4), 12);
      is(x.profitable(0, 6), 15);
      is(x.profitable(0, 1), 1);
      is(x.profitable(0, 3), 2);
    });
    test("13: round is PROFITABLE if it is nearer", () -> { BubbleTorus x = new BubbleTorus(); is(x.profitable(0, 2), 2); is(x.profitable(0, 6), 8); is(x.profitable(8, 0), 5); });
    test("13: no such NODE", () -> { BubbleTorus x = new BubbleTorus(); none(x.profitable(-1, 0), x.profitable(0, -1), x.profitable(9, 0), x.profitable(0, 9), x.profitable(MOST, MOST)); });
    test("14: i NONE is how many", () -> { BubbleTorus x = of(4, 4, 2, 1, 1, 8); is(x.way(0, 10, NONE), 4); is(x.way(0, 1, NONE), 1); });
    test("14: of a NODE to itself there is no way", () -> { BubbleTorus x = new BubbleTorus(); is(x.way(4, 4, NONE), 0); none(x.way(4, 4, 0), x.way(4, 4, 1)); });
    test("14: i of as many as there are is none", () -> { BubbleTorus x = of(4, 4, 2, 1, 1, 8); is(x.way(0, 10, 3), 2); none(x.way(0, 10, 4), x.way(0, 1, 1), x.way(0, 1, MOST)); });
    test("14: i -2 is none", () -> { BubbleTorus x = new BubbleTorus(); none(x.way(0, 1, -2), x.way(0, 1, LEAST)); });
    test("14: along columns first", () -> { BubbleTorus x = new BubbleTorus(); is(x.way(0, 8, 0), 1); is(x.way(0, 8, 1), 3); is(x.way(4, 8, 0), 0); is(x.way(4, 8, 1), 2); });
    test("14: of two as long ways by columns the lesser", () -> { BubbleTorus x = of(4, 4, 2, 1, 1, 8); is(x.way(0, 2, 0), 0); is(x.way(3, 1, 0), 0); is(x.way(3, 1, 1), 0); });
    test("14: of two as long ways by rows the lesser", () -> { BubbleTorus x = of(4, 4, 2, 1, 1, 8); is(x.way(0, 8, 0), 2); is(x.way(12, 4, 0), 2); is(x.way(12, 4, 1), 2); });
    test("14: no such NODE", () -> { BubbleTorus x = new BubbleTorus(); for (int i = -1; i < 2; i++) none(x.way(-1, 0, i), x.way(0, -1, i), x.way(9, 0, i), x.way(0, 9, i), x.way(MOST, 0, i)); });
    test("16: RINGS of rows and columns have their numbers one behind the other", () -> {
      BubbleTorus x = of(4, 2, 2, 1, 1, 8);
      int[] first = {0, 2, 4, 8}, last = {1, 3, 7, 11};
      for (int d = 0; d < 4; d++) { is(x.ringOf(0, d), first[d]); is(x.ringOf(7, d), last[d]); }
    });
    test("16: no such NODE", () -> { BubbleTorus x = new BubbleTorus(); for (int d = 0; d < 4; d++) none(x.ringOf(-1, d), x.ringOf(9, d), x.ringOf(LEAST, d), x.ringOf(MOST, d)); });
    test("16: no such DIRECTION", () -> { BubbleTorus x = new BubbleTorus(); none(x.ringOf(0, -1), x.ringOf(0, 4), x.ringOf(0, LEAST), x.ringOf(0, MOST)); });
  }

  // ---- promise 15

  private static void ring() {
    test("15: there is no RING -1", () -> { BubbleTorus x = new BubbleTorus(); for (int k = 0; k < 11; k++) none(x.ring(-1, k), x.ring(LEAST, k)); });
    test("15: there are twice W and twice H RINGS", () -> {
      BubbleTorus x = of(4, 2, 2, 1, 2, 8);
      is(x.ring(11, 0), 3);
      for (int k = 0; k < 11; k++) none(x.ring(12, k), x.ring(MOST, k));
      is(of(2, 4, 2, 1, 1, 8).ring(11, 1), 1);
      none(of(2, 2, 2, 1, 1, 8).ring(8, 0));
      is(of(4, 4, 2, 1, 1, 8).ring(15, 0), 3);
      none(of(4, 4, 2, 1, 1, 8).ring(16, 0));
    });
    test("15: what -1 can't be", () -> none(new BubbleTorus().ring(0, -1), new BubbleTorus().ring(0, LEAST)));
    test("15: what 11 can't be", () -> none(new BubbleTorus().ring(0, 11), new BubbleTorus().ring(0, MOST)));
    test("15: the first and the last RING of each DIRECTION", () -> {
      BubbleTorus x = of(4, 3, 2, 1, 1, 8);
      int[][] due = {{0, 0, 0, 4}, {2, 0, 8, 4}, {3, 1, 0, 4}, {5, 1, 8, 4}, {6, 2, 0, 3}, {9, 2, 3, 3}, {10, 3, 0, 3}, {13, 3, 3, 3}};
      for (int[] r : due) for (int what = 0; what < 3; what++) is(x.ring(r[0], what), r[what + 1]);
    });
    test("15: CRITICAL is NONE but with RULE 2", () -> {
      for (int r = 0; r < 12; r++) none(of(3, 3, 2, 1, 0, 8).ring(r, 5), of(3, 3, 2, 1, 1, 8).ring(r, 5));
      is(of(3, 3, 2, 1, 2, 8).ring(1, 5), 3);
    });
    test("15: without a MARK OWNER and NODE of it are NONE", () -> {
      BubbleTorus x = ticked(hungry(2), 1);
      for (int r = 0; r < 12; r++) none(x.ring(r, 6), x.ring(r, 7));
      x.tick(1);
      is(x.ring(0, 6), 0);
      is(x.ring(0, 7), 0);
      for (int r = 1; r < 12; r++) none(x.ring(r, 6), x.ring(r, 7));
    });
    test("15: nobody is BARRED at first", () -> { for (int r = 0; r < 12; r++) is(new BubbleTorus().ring(r, 8), 0); });
    test("15: ahead of any TICK the fewest free places are all", () -> {
      BubbleTorus x = sent(of(4, 2, 3, 1, 1, 8), 0, 1);
      is(x.ring(0, 10), 12);
      is(x.ring(11, 10), 6);
    });
    test("15: the fewest free places there ever were", () -> {
      BubbleTorus x = ticked(sent(of(3, 3, 2, 0, 0, 0), 0, 1, 1, 2), 1);
      is(x.ring(0, 4), 4);
      is(x.ring(0, 10), 4);
      x.tick(1);
      is(x.ring(0, 4), 6);
      is(x.ring(0, 10), 4);
    });
    test("15: the fewest free places are those at the end of a TICK", () -> {
      // TICK 11 begins with node 3: the second one enters by node 0 ahead of the first one, that turns in node 2
      BubbleTorus x = ticked(sent(of(4, 2, 2, 0, 0, 0), 0, 6), 9);
      is(x.look(8), 1);
      is(x.ring(0, 10), 7);
      sent(x, 0, 6);
      x.tick(2);
      sent(x, 0, 1);
      is(x.queue(2, 1, 0, 0), 1);
      x.tick(6);
      is(x.look(8), 3);
      is(x.ring(0, 10), 7);
    });
    test("15: ENTERED counts once for each that came in", () -> {
      BubbleTorus x = ticked(sent(of(4, 2, 2, 0, 0, 0), 0, 2, 0, 2), 6);
      is(x.ring(0, 9), 2);
      is(x.look(8), 2);
      for (int r = 1; r < 12; r++) is(x.ring(r, 9), 0);
    });
    test("15: ESCAPE queues alone are counted", () -> {
      BubbleTorus x = ticked(sentTimes(sentTimes(of(3, 3, 2, 1, 0, 0), 6, 1, 4), 6, 0, 4), 2);
      is(x.ring(0, 3), 1);
      is(x.ring(0, 4), 5);
    });
    test("15: a full RING has no free place", () -> { BubbleTorus x = ticked(circle(), 1); is(x.ring(0, 3), 4); is(x.ring(0, 4), 0); is(x.ring(0, 10), 0); });
  }

  // ---- promise 17

  private static void hunger() {
    test("17: no such NODE", () -> { BubbleTorus x = new BubbleTorus(); for (int d = 0; d < 4; d++) none(x.hunger(-1, d), x.hunger(9, d), x.hunger(LEAST, d), x.hunger(MOST, d)); });
    test("17: no such DIRECTION", () -> { BubbleTorus x = new BubbleTorus(); none(x.hunger(0, -1), x.hunger(0, 4), x.hunger(0, LEAST), x.hunger(0, MOST)); });
    test("17: HUNGER is 0 at first", () -> { for (int v = 0; v < 9; v++) for (int d = 0; d < 4; d++) is(hungry(0).hunger(v, d), 0); });
    test("17: HUNGER is one more by a TICK, else 0", () -> {
      BubbleTorus x = hungry(0);
      int[] due = {1, 2, 3, 4, 5, 0, 0};
      for (int d : due) { x.tick(1); is(x.hunger(0, 0), d); }
    });
    test("17: HUNGER is 999 at most", () -> {
      BubbleTorus x = hungryForGood(0);
      for (int i = 0; i < 9; i++) x.tick(100);
      x.tick(98);
      is(x.hunger(1, 0), 998);
      x.tick(1);
      is(x.hunger(1, 0), 999);
      x.tick(1);
      is(x.hunger(1, 0), 999);
      x.tick(100);
      is(x.hunger(1, 0), 999);
    });
    test("17: HUNGER is 0 if one ENTERED, though others wait", () -> {
      BubbleTorus x = ticked(sentTimes(of(3, 3, 2, 0, 0, 0), 6, 0, 1), 1);
      is(x.ring(0, 9), 1);
      is(x.node(0, 0), 5);
      is(x.hunger(0, 0), 0);
    });
    test("17: HUNGER grows if one went by ADAPTIVE alone", () -> { BubbleTorus x = ticked(hungry(0), 1); is(x.link(0, 0), 1); is(x.hunger(0, 0), 1); });
    test("17: HUNGER grows if one CONTINUED there", () -> {
      BubbleTorus x = ticked(sent(of(4, 2, 2, 0, 0, 0), 1, 2, 1, 2, 0, 2), 2);
      is(x.packet(2, 4), 2);
      is(x.hunger(1, 0), 1);
    });
    test("17: what CONTINUES is not hungry", () -> {
      BubbleTorus x = ticked(circle(), 3);
      for (int v = 0; v < 4; v++) is(x.hunger(v, 0), 0);
    });
    test("17: HUNGER is of the ESCAPE DIRECTION alone", () -> {
      BubbleTorus x = ticked(sentTimes(of(3, 3, 2, 1, 0, 0), 6, 0, 4), 1); // 2 is PROFITABLE, too
      is(x.hunger(0, 0), 1);
      for (int d = 1; d < 4; d++) is(x.hunger(0, d), 0);
    });
    test("17: HUNGER looks at what is first by now", () -> {
      BubbleTorus x = ticked(sent(of(3, 3, 2, 0, 0, 0), 0, 1, 0, 1, 0, 3), 1);
      is(x.hunger(0, 0), 0);                                               // one ENTERED
      is(x.hunger(0, 2), 0);                                               // its packet is not the first one yet
      x.tick(1);
      is(x.hunger(0, 2), 0);                                               // it entered, too
      x = ticked(sent(of(3, 3, 1, 0, 2, 0), 2, 1, 2, 0), 1);               // 0 went by 1; 1, for 0, is first behind it
      is(x.hunger(2, 0), 1);
      is(x.hunger(2, 1), 0);
    });
    test("17: what came by ADAPTIVE of that DIRECTION is hungry", () -> {
      // 2 comes by ADAPTIVE of 2 to node 1 and waits there, as 0 and 1, from the door of 1, go by 2 ahead of it
      BubbleTorus x = ticked(sent(of(4, 4, 2, 1, 0, 0), 1, 5, 1, 5, 13, 5), 1);
      is(x.queue(1, 2, 2, 0), 2);
      is(x.hunger(1, 2), 1);
      x.tick(1);
      is(x.node(1, 0), 0);
      is(x.queue(1, 2, 2, 0), 2);
      is(x.hunger(1, 2), 2);
      x.tick(1);
      is(x.hunger(1, 2), 0);
    });
    test("17: what came by ESCAPE of another DIRECTION is hungry", () -> {
      BubbleTorus x = sent(of(3, 3, 1, 0, 2, 0), 6, 1);                    // it turns in 7, but CRITICAL is in 1
      for (int t = 1; t <= 5; t++) { x.tick(1); is(x.packet(0, 4), 7); is(x.hunger(7, 2), t); is(x.hunger(7, 0), 0); }
    });
    test("17: of a RING of two both DIRECTIONS count for themselves", () -> {
      BubbleTorus x = ticked(hungryForGood(0), 3);
      is(x.hunger(1, 0), 3);
      is(x.hunger(1, 1), 0);                                               // 1 is PROFITABLE, but the lesser is 0
    });
  }
  private static void marks() {
    test("15: a MARK begins with HUNGER of BOUND, not with one less", () -> {
      for (int b = 1; b <= 5; b++) {
        BubbleTorus x = hungry(b);
        for (int t = 1; t < b; t++) { x.tick(1); none(x.ring(0, 6)); is(x.look(15), 0); }
        x.tick(1);
        is(x.hunger(0, 0), b);
        is(x.ring(0, 6), 0);
        is(x.ring(0, 7), 0);
        is(x.look(15), 1);
      }
    });
    test("15: BOUND 99 is not reached with 98", () -> {
      BubbleTorus x = hungryForGood(99);
      x.tick(98);
      none(x.ring(0, 6));
      x.tick(1);
      is(x.ring(0, 6), 1);
    });
    test("15: with BOUND 0 there is no MARK", () -> {
      BubbleTorus x = hungryForGood(0);
      x.tick(100);
      none(x.ring(0, 6));
      is(x.look(15), 0);
      is(x.hunger(1, 0), 100);
    });
    test("15: with BOUND 0 a MARK neither goes nor ends", () -> {
      BubbleTorus x = ticked(hungry(1), 2);
      x.bound(0);
      x.tick(10);
      is(x.hunger(0, 0), 0);
      is(x.ring(0, 6), 0);
      is(x.ring(0, 7), 1);
      is(x.ring(0, 8), 2);
      is(x.look(16), 1);
    });
    test("15: a MARK goes round, and its OWNER is not BARRED", () -> {
      BubbleTorus x = sent(of(4, 2, 1, 0, 2, 1), 3, 0);                    // for good: CRITICAL is at 0
      int[] at = {3, 0, 1, 2, 3, 0}, barred = {0, 1, 3, 7, 7, 7};
      for (int t = 0; t < 6; t++) {
        x.tick(1);
        is(x.ring(0, 6), 3);
        is(x.ring(0, 7), at[t]);
        is(x.ring(0, 8), barred[t]);
      }
      is(x.look(15), 1);
    });
    test("15: a MARK goes round in a RING of two", () -> {
      BubbleTorus x = hungryForGood(1);
      int[] at = {1, 0, 1, 0}, barred = {0, 1, 1, 1};
      for (int t = 0; t < 4; t++) { x.tick(1); is(x.ring(0, 6), 1); is(x.ring(0, 7), at[t]); is(x.ring(0, 8), barred[t]); }
    });
    test("15: a MARK that rested goes on with a BOUND again", () -> {
      BubbleTorus x = ticked(hungry(1), 2);
      x.bound(0);
      x.tick(1);
      is(x.ring(0, 7), 1);
      x.bound(99);
      x.tick(1);
      is(x.ring(0, 6), 0);
      is(x.ring(0, 7), 2);
      is(x.ring(0, 8), 6);
      is(x.look(15), 1);
    });
    test("15: a MARK of DIRECTION 1 goes by 1", () -> {
      BubbleTorus x = sentTimes(of(3, 3, 2, 1, 0, 1), 6, 1, 0);
      int[] at = {1, 0, 2, 1}, barred = {0, 1, 5, 5};
      for (int t = 0; t < 4; t++) { x.tick(1); is(x.ring(3, 7), at[t]); is(x.ring(3, 8), barred[t]); }
    });
    test("15: a MARK of DIRECTION 3 goes by 3", () -> {
      BubbleTorus x = sentTimes(of(3, 3, 2, 1, 0, 1), 6, 4, 1);            // column 1: 1, 4, 7
      int[] at = {4, 1, 7, 4}, barred = {0, 2, 130, 130};
      for (int t = 0; t < 4; t++) { x.tick(1); is(x.ring(10, 7), at[t]); is(x.ring(10, 8), barred[t]); }
    });
    test("15: a MARK ends with HUNGER 0 of its OWNER", () -> {
      BubbleTorus x = ticked(hungry(1), 5);
      is(x.ring(0, 6), 0);
      is(x.ring(0, 8), 6);
      x.tick(1);
      none(x.ring(0, 6), x.ring(0, 7));
      is(x.ring(0, 8), 0);
      is(x.look(16), 0);
      is(x.look(15), 1);
    });
    test("15: as a MARK ends, another one begins in the same TICK", () -> {
      // node 0 with three for 1: 1, 2, 0; node 1 with six for 2: 1, 2, 3
      BubbleTorus x = sentTimes(sentTimes(of(3, 3, 2, 1, 0, 1), 3, 0, 1), 6, 1, 2);
      x.tick(2);
      is(x.ring(0, 6), 0);
      is(x.ring(0, 8), 2);
      x.tick(1);
      is(x.ring(0, 6), 1);
      is(x.ring(0, 7), 1);
      is(x.ring(0, 8), 0);
      is(x.look(15), 2);
      is(x.look(16), 1);
    });
    test("15: of several as hungry the least NODE is OWNER", () -> {
      BubbleTorus x = ticked(sentTimes(sentTimes(of(3, 3, 2, 1, 0, 1), 3, 1, 2), 3, 0, 1), 1);
      is(x.hunger(0, 0), 1);
      is(x.hunger(1, 0), 1);
      is(x.ring(0, 6), 0);
    });
    test("15: the one with the most HUNGER is OWNER", () -> {
      BubbleTorus x = ticked(sentTimes(of(3, 3, 2, 1, 0, 0), 6, 1, 2), 1);
      sentTimes(x, 6, 0, 1);
      x.tick(1);
      x.bound(1);
      x.tick(1);
      is(x.hunger(0, 0), 2);
      is(x.hunger(1, 0), 3);
      is(x.ring(0, 6), 1);
    });
    test("15: a RING with a MARK takes no second one", () -> {
      BubbleTorus x = ticked(hungry(1), 1);
      sentTimes(x, 6, 1, 2);
      x.tick(3);
      is(x.ring(0, 6), 0);
      is(x.look(15), 1);
    });
    test("15: the OWNER is a NODE of the RING", () -> {
      BubbleTorus x = ticked(sentTimes(of(3, 3, 2, 1, 0, 1), 6, 3, 4), 1);
      is(x.ring(1, 6), 3);
      for (int r = 0; r < 12; r++) if (r != 1) none(x.ring(r, 6));
    });
    test("15: RINGS have MARKS each for itself", () -> {
      BubbleTorus x = ticked(sentTimes(hungry(1), 6, 3, 4), 2);
      is(x.ring(0, 6), 0);
      is(x.ring(1, 6), 3);
      is(x.ring(0, 8), 2);
      is(x.ring(1, 8), 16);
      is(x.look(16), 2);
    });
  }

  // ---- promise 18

  private static void node() {
    test("18: there is no NODE -1", () -> { BubbleTorus x = new BubbleTorus(); for (int k = 0; k < 6; k++) none(x.node(-1, k), x.node(LEAST, k)); });
    test("18: there is no NODE of as many as there are", () -> { BubbleTorus x = new BubbleTorus(); for (int k = 0; k < 6; k++) none(x.node(9, k), x.node(MOST, k)); is(x.node(8, 0), 0); });
    test("18: what -1 can't be", () -> none(new BubbleTorus().node(0, -1), new BubbleTorus().node(0, LEAST)));
    test("18: what 6 can't be", () -> none(new BubbleTorus().node(0, 6), new BubbleTorus().node(0, MOST)));
    test("18: all is 0 at first", () -> { for (int v = 0; v < 9; v++) for (int k = 0; k < 6; k++) is(new BubbleTorus().node(v, k), 0); });
    test("18: a full DOOR has six", () -> { BubbleTorus x = sentTimes(new BubbleTorus(), 6, 0, 1); x.send(0, 1); is(x.node(0, 0), 6); is(x.node(0, 1), 6); is(x.node(0, 2), 6); });
    test("18: all its queues are DOOR, ESCAPE and ADAPTIVE ones", () -> {
      BubbleTorus x = ticked(sentTimes(sentTimes(of(3, 3, 2, 1, 0, 0), 6, 1, 4), 6, 0, 4), 2);
      is(x.node(1, 0), 4);
      is(x.node(1, 1), 6);
      x = ticked(sent(new BubbleTorus(), 4, 3, 5, 3, 6, 3, 0, 3), 1);      // by 1, 0, 3 and 2, the last queues, too
      is(x.node(3, 1), 4);
    });
    test("18: DELIVERED ones are no more in its queues", () -> { BubbleTorus x = ticked(sent(new BubbleTorus(), 0, 1), 2); is(x.node(1, 1), 0); is(x.node(1, 3), 1); is(x.node(0, 3), 0); });
    test("18: the most HUNGER it ever had", () -> {
      BubbleTorus x = ticked(hungry(0), 6);
      is(x.hunger(0, 0), 0);
      is(x.node(0, 4), 5);
      sent(x, 0, 1, 0, 1);
      x.tick(1);
      is(x.hunger(0, 0), 1);
      is(x.node(0, 4), 5);
    });
    test("18: the most HUNGER is 999 at most", () -> {
      BubbleTorus x = hungryForGood(0);
      for (int i = 0; i < 11; i++) x.tick(100);
      is(x.node(1, 4), 999);
    });
    test("18: the most TICKS in the DOOR are of those that left", () -> {
      BubbleTorus x = ticked(hungryForGood(0), 50);
      is(x.node(1, 0), 1);
      is(x.node(1, 5), 0);
    });
    test("18: the most TICKS in the DOOR are 0 if it leaves at once", () -> { BubbleTorus x = ticked(new BubbleTorus(), 7); sent(x, 0, 1); x.tick(2); is(x.node(0, 5), 0); });
    test("18: the most TICKS in the DOOR are of its own packets", () -> {
      BubbleTorus x = ticked(sent(hungry(0), 3, 4), 6);
      is(x.node(0, 5), 5);
      is(x.node(3, 5), 0);
      is(x.node(1, 5), 0);
    });
    test("18: the most TICKS in the DOOR are those of PACKET 0, too", () -> {
      BubbleTorus x = lateAtDoor();
      is(x.packet(0, 10), 2);
      is(x.node(3, 5), 2);
      is(x.node(2, 5), 0);
    });
    test("18: the most TICKS in the DOOR are TICK less BORN", () -> {
      BubbleTorus x = ticked(new BubbleTorus(), 9);
      sentTimes(x, 4, 0, 1);
      int[] due = {0, 1, 2, 3, 3};
      for (int d : due) { x.tick(1); is(x.node(0, 5), d); }
    });
  }

  // ---- promise 19

  private static void move() {
    test("19: i NONE is how many, 0 at first", () -> is(new BubbleTorus().move(NONE, 0), 0));
    test("19: i of as many as there are is none", () -> {
      BubbleTorus x = ticked(sent(new BubbleTorus(), 0, 1, 4, 5), 1);
      is(x.move(1, 0), 1);
      for (int k = 0; k < 5; k++) none(x.move(2, k), x.move(MOST, k));
    });
    test("19: i -2 is none", () -> { BubbleTorus x = ticked(sent(new BubbleTorus(), 0, 1, 4, 5), 1); for (int k = 0; k < 5; k++) none(x.move(-2, k), x.move(LEAST, k)); });
    test("19: what -1 can't be", () -> { BubbleTorus x = ticked(sent(new BubbleTorus(), 0, 1, 4, 5), 1); none(x.move(0, -1), x.move(1, -1), x.move(0, LEAST)); });
    test("19: what 5 can't be", () -> { BubbleTorus x = ticked(sent(new BubbleTorus(), 0, 1, 4, 5), 1); none(x.move(0, 5), x.move(1, 5), x.move(0, MOST)); });
    test("19: how many is the same with each what there is, and NONE with another", () -> {
      BubbleTorus x = ticked(sent(new BubbleTorus(), 0, 1, 4, 5), 1);
      for (int k = 0; k < 5; k++) is(x.move(NONE, k), 2);
      none(x.move(NONE, 5), x.move(NONE, -1));
    });
    test("19: MOVES are of the latest TICK alone", () -> {
      BubbleTorus x = ticked(sent(of(4, 2, 2, 0, 0, 0), 0, 2, 4, 5), 2);
      is(x.move(NONE, 0), 1);
      is(x.move(0, 0), 0);
      is(x.move(0, 1), 1);
      x = ticked(sent(of(4, 2, 2, 0, 0, 0), 0, 2), 100);
      is(x.move(NONE, 0), 0);
    });
    test("19: ENTERED is 1, CONTINUED 2, by ADAPTIVE 0", () -> {
      BubbleTorus x = ticked(sent(of(4, 2, 2, 0, 0, 0), 0, 2), 1);
      is(x.move(0, 4), 1);
      x.tick(1);
      is(x.move(0, 4), 2);
      is(ticked(sent(of(4, 2, 2, 1, 0, 0), 0, 2), 1).move(0, 4), 0);
    });
    test("19: turning into another RING is ENTERING", () -> {
      BubbleTorus x = ticked(sent(of(3, 3, 2, 0, 0, 0), 0, 4), 2);
      is(x.move(0, 2), 2);
      is(x.move(0, 4), 1);
    });
    test("19: by all LINKS of a NODE one each", () -> {
      BubbleTorus x = ticked(sent(new BubbleTorus(), 4, 5, 4, 3, 4, 7, 4, 1), 1);
      is(x.move(NONE, 0), 4);
      for (int i = 0; i < 4; i++) { is(x.move(i, 0), i); is(x.move(i, 1), 4); is(x.move(i, 2), i); is(x.move(i, 3), 2); }
    });
    test("19: by all LINKS there are", () -> {
      BubbleTorus x = of(2, 2, 2, 1, 0, 0);
      for (int v = 0; v < 4; v++) sent(x, v, v ^ 1, v, v ^ 1, v, v ^ 2, v, v ^ 2);
      x.tick(1);
      is(x.move(NONE, 0), 16);
      is(x.move(15, 1), 3);
      is(x.move(15, 2), 3);
      none(x.move(16, 0));
    });
  }

  // ---- promises 20 and 21

  private static void linkAndTrace() {
    test("20: no such NODE", () -> { BubbleTorus x = new BubbleTorus(); for (int d = 0; d < 4; d++) none(x.link(-1, d), x.link(9, d), x.link(LEAST, d), x.link(MOST, d)); });
    test("20: no such DIRECTION", () -> { BubbleTorus x = new BubbleTorus(); none(x.link(0, -1), x.link(0, 4), x.link(0, LEAST), x.link(0, MOST)); });
    test("20: a LINK has 0 at first", () -> { for (int v = 0; v < 9; v++) for (int d = 0; d < 4; d++) is(sent(new BubbleTorus(), 0, 1).link(v, d), 0); });
    test("20: a LINK counts both lanes, each DIRECTION for itself", () -> {
      BubbleTorus x = ticked(sent(of(2, 2, 2, 1, 0, 0), 0, 1, 0, 1, 0, 1), 9);
      is(x.link(0, 0), 2);                                                 // 0 and 2 by 0, 1 by 1
      is(x.link(0, 1), 1);
      x = ticked(sentTimes(of(3, 3, 2, 0, 0, 0), 6, 0, 1), 9);
      is(x.link(0, 0), 6);
    });
    test("21: i 0 is FROM, in the DOOR, too", () -> { BubbleTorus x = sent(new BubbleTorus(), 5, 1); is(x.trace(0, 0), 5); none(x.trace(0, 1)); });
    test("21: i of HOPS is the last one", () -> {
      BubbleTorus x = sent(of(4, 4, 2, 0, 0, 0), 0, 10);
      int[] due = {0, 1, 2, 6, 10};
      for (int t = 0; t < 5; t++) { is(x.trace(0, t), due[t]); none(x.trace(0, t + 1)); x.tick(1); }
      for (int i = 0; i < 5; i++) is(x.trace(0, i), due[i]);
      none(x.trace(0, 5), x.trace(0, MOST));
    });
    test("21: i -1 is none", () -> { BubbleTorus x = ticked(sent(new BubbleTorus(), 5, 1), 3); none(x.trace(0, -1), x.trace(0, LEAST)); });
    test("21: no such PACKET", () -> { BubbleTorus x = sent(new BubbleTorus(), 5, 1); none(x.trace(-1, 0), x.trace(1, 0), x.trace(LEAST, 0), x.trace(MOST, 0)); none(new BubbleTorus().trace(0, 0)); });
  }

  // ---- promises 22 to 24

  private static void pair() {
    test("22: of a NODE with itself 0, 0, 0, NONE", () -> {
      BubbleTorus x = ticked(sent(new BubbleTorus(), 0, 1, 1, 0), 5);
      for (int v = 0; v < 9; v++) { for (int k = 0; k < 3; k++) is(x.pair(v, v, k), 0); none(x.pair(v, v, 3)); }
    });
    test("22: of a pair with none SENT 0, 0, 0, NONE", () -> { BubbleTorus x = ticked(sent(new BubbleTorus(), 0, 1), 5); for (int k = 0; k < 3; k++) is(x.pair(1, 0, k), 0); none(x.pair(1, 0, 3)); });
    test("22: the greatest LATE is NONE until one is DELIVERED", () -> {
      BubbleTorus x = ticked(sent(new BubbleTorus(), 0, 1), 1);
      is(x.pair(0, 1, 0), 1);
      is(x.pair(0, 1, 1), 0);
      none(x.pair(0, 1, 3));
      x.tick(1);
      is(x.pair(0, 1, 3), 1);
    });
    test("22: the greatest LATE of several", () -> { BubbleTorus x = ticked(sentTimes(new BubbleTorus(), 4, 0, 1), 9); is(x.pair(0, 1, 3), 4); sent(x, 0, 1); x.tick(9); is(x.pair(0, 1, 3), 4); is(x.pair(0, 1, 1), 5); });
    test("22: no such NODE", () -> { BubbleTorus x = new BubbleTorus(); for (int k = 0; k < 4; k++) none(x.pair(-1, 0, k), x.pair(0, -1, k), x.pair(9, 0, k), x.pair(0, 9, k), x.pair(9, 9, k), x.pair(-1, -1, k)); });
    test("22: what -1 can't be", () -> none(new BubbleTorus().pair(0, 1, -1), new BubbleTorus().pair(1, 1, -1), new BubbleTorus().pair(0, 1, LEAST)));
    test("22: what 4 can't be", () -> none(new BubbleTorus().pair(0, 1, 4), new BubbleTorus().pair(1, 1, 4), new BubbleTorus().pair(0, 1, MOST)));
    test("22: OUT OF ORDER of a pair", () -> { is(crossing().pair(0, 5, 2), 1); is(crossing().pair(5, 0, 2), 0); });
  }
  /** LATE of those that are DELIVERED: 1, 1, 2, 3; one is still on its way. */
  private static BubbleTorus late() {
    BubbleTorus x = ticked(sent(of(3, 3, 2, 0, 0, 0), 0, 1, 0, 1, 0, 1, 4, 5), 4);
    sent(x, 7, 8);
    return x;
  }
  private static void lates() {
    test("23: low counts, too", () -> { is(late().late(2, 9), 2); is(late().late(3, 9), 1); });
    test("23: high counts, too", () -> { is(late().late(0, 2), 3); is(late().late(0, 1), 2); });
    test("23: low and high may be one", () -> { is(late().late(1, 1), 2); is(late().late(2, 2), 1); is(late().late(0, 0), 0); is(late().late(4, 4), 0); });
    test("23: none if low is more than high", () -> { is(late().late(3, 1), 0); is(late().late(2, 1), 0); is(late().late(MOST, LEAST), 0); });
    test("23: all ints can be low and high", () -> { is(late().late(LEAST, MOST), 4); is(late().late(LEAST, LEAST), 0); is(late().late(MOST, MOST), 0); is(late().late(-5, 0), 0); });
    test("23: only DELIVERED ones are LATE", () -> { is(sent(new BubbleTorus(), 0, 1).late(LEAST, MOST), 0); is(new BubbleTorus().late(LEAST, MOST), 0); });
    test("23: LATE is TICK in (a) less BORN", () -> {
      BubbleTorus x = ticked(new BubbleTorus(), 20);
      sent(x, 0, 1);
      x.tick(2);
      is(x.late(1, 1), 1);
      is(x.packet(0, 7), 21);
      is(x.look(12), 1);
    });
    test("24: i NONE is how many, 0 at first", () -> { is(new BubbleTorus().lates(NONE, 0), 0); is(new BubbleTorus().lates(NONE, 1), 0); is(late().lates(NONE, 0), 3); is(late().lates(NONE, 1), 3); });
    test("24: rising, each once", () -> {
      BubbleTorus x = late();
      int[] value = {1, 2, 3}, many = {2, 1, 1};
      for (int i = 0; i < 3; i++) { is(x.lates(i, 0), value[i]); is(x.lates(i, 1), many[i]); }
    });
    test("24: a single LATE, of PACKET 0", () -> {
      BubbleTorus x = ticked(sent(new BubbleTorus(), 0, 1), 2);
      is(x.lates(NONE, 0), 1);
      is(x.lates(0, 0), 1);
      is(x.lates(0, 1), 1);
      none(x.lates(1, 0), x.lates(1, 1));
    });
    test("24: i of as many as there are is none", () -> { none(late().lates(3, 0), late().lates(3, 1), late().lates(MOST, 0), new BubbleTorus().lates(0, 0)); });
    test("24: i -2 is none", () -> none(late().lates(-2, 0), late().lates(-2, 1), late().lates(LEAST, 0)));
    test("24: what -1 can't be", () -> none(late().lates(0, -1), late().lates(NONE, -1), late().lates(0, LEAST)));
    test("24: what 2 can't be", () -> none(late().lates(0, 2), late().lates(NONE, 2), late().lates(0, MOST)));
  }

  // ---- promises 25 to 27

  private static void goesOn() {
    test("25: no such PACKET", () -> { BubbleTorus x = sent(new BubbleTorus(), 0, 1); none(x.goesOn(-1), x.goesOn(1), x.goesOn(LEAST), x.goesOn(MOST)); });
    test("25: NONE of a DELIVERED one", () -> { BubbleTorus x = ticked(sent(new BubbleTorus(), 0, 1), 2); none(x.goesOn(0)); });
    test("25: NONE of one that is not the first of its queue", () -> { BubbleTorus x = sent(new BubbleTorus(), 0, 1, 0, 2); is(x.goesOn(0), 1); none(x.goesOn(1)); });
    test("25: what is in its TO CAN GO ON", () -> { BubbleTorus x = ticked(sent(new BubbleTorus(), 0, 1), 1); is(x.goesOn(0), 1); });
    test("25: what can go now CAN GO ON, what can't not", () -> { is(sent(new BubbleTorus(), 0, 1).goesOn(0), 1); is(hungryForGood(0).goesOn(0), 0); });
    test("25: were nobody BARRED", () -> {
      // MARK of node 1 (2 by 2) has BARRED node 0; it may not enter, yet CAN GO ON
      BubbleTorus x = sent(ticked(hungryForGood(1), 2), 0, 1);
      is(x.ring(0, 8), 1);
      x.tick(2);
      is(x.packet(1, 3), 0);
      is(x.goesOn(1), 1);
    });
    test("25: behind a first one of an ADAPTIVE queue that CAN GO ON", () -> {
      // E 1, A 1, RULE 2: 1, 2 to 0 by 1's... all of node 1's way to 0 is full, but what fills ADAPTIVE is in its TO
      BubbleTorus x = sent(of(3, 3, 1, 1, 2, 0), 2, 0);
      x.tick(1);
      is(x.packet(0, 3), 2);
      sent(x, 2, 0);
      is(x.goesOn(0), 1);
      is(x.goesOn(1), 1);
      is(of(3, 3, 1, 1, 2, 0).enters(2, 0), 0);
    });
    test("25: what CONTINUES goes on behind the first one of the next ESCAPE queue", () -> {
      // E 1: 0 is in node 2 (its TO), 1 in node 1 behind it
      BubbleTorus x = ticked(sent(of(4, 2, 1, 0, 0, 0), 1, 2, 0, 2), 1);
      is(x.queue(2, 1, 0, 0), 0);
      is(x.queue(1, 1, 0, 0), 1);
      is(x.goesOn(1), 1);
      is(x.goesOn(0), 1);
      x = ticked(circle(), 1);
      for (int p = 0; p < 4; p++) is(x.goesOn(p), 0);
    });
    test("25: what would ENTER goes on behind any first one of the RING", () -> {
      // E 1: node 1 is full of 0 (in its TO), so 1 can't enter now, but CAN GO ON; the ring is far from full
      BubbleTorus x = ticked(sent(of(4, 2, 1, 0, 0, 0), 0, 1, 0, 1, 2, 3), 1);
      is(x.queue(1, 1, 0, 0), 0);
      is(x.enters(0, 0), 0);
      is(x.goesOn(1), 1);
      // RULE 2: CRITICAL at 0: 3 may not enter 0, but what is in node 2, its TO, CAN GO ON, and so 3's
      x = ticked(sent(of(4, 2, 1, 0, 2, 0), 1, 2), 1);
      sent(x, 3, 0);
      is(x.goesOn(1), 1);
      x.tick(1);
      is(x.goesOn(1), 0);
    });
    test("25: any first one of the RING, that in its least NODE, too", () -> {
      BubbleTorus x = ticked(sent(of(4, 2, 1, 0, 0, 0), 3, 0, 3, 0), 1);   // 0 fills node 0, its TO
      is(x.enters(3, 0), 0);
      is(x.goesOn(1), 1);
      x = ticked(sent(of(4, 2, 1, 0, 0, 0), 2, 3, 2, 3), 1);               // and in the last one
      is(x.enters(2, 0), 0);
      is(x.goesOn(1), 1);
    });
    test("25: again and again, however long the row is", () -> {
      // E 1: 2 is in node 3, its TO; 1 waits for that in node 2, 0 for 1 in node 1, 3 in the door for 0
      BubbleTorus x = ticked(sent(of(4, 2, 1, 0, 0, 0), 0, 2, 1, 3, 2, 3), 1);
      sent(x, 0, 1);
      for (int p = 0; p < 3; p++) is(x.packet(p, 4), p + 1);
      for (int p = 0; p < 4; p++) is(x.goesOn(p), 1);
      is(x.stuck(), 0);
    });
    test("25: an empty queue has no first one that CAN GO ON", () -> {
      BubbleTorus x = hungryForGood(0);                                    // all other queues are empty
      is(x.goesOn(0), 0);
      is(x.dead(), 1);
    });
    test("26: nothing is STUCK in an empty TORUS", () -> is(new BubbleTorus().stuck(), 0));
    test("26: nothing is STUCK while all go", () -> is(sent(new BubbleTorus(), 0, 1, 0, 2, 3, 4).stuck(), 0));
    test("26: those behind are STUCK, too", () -> { BubbleTorus x = hungryForGood(0); is(x.stuck(), 1); sent(x, 1, 3, 1, 3); is(x.stuck(), 3); });
    test("26: a full DOOR of STUCK ones", () -> { BubbleTorus x = sentTimes(hungryForGood(0), 5, 1, 0); is(x.stuck(), 6); });
    test("26: those in the first DOOR and in the last queue are STUCK, too", () -> {
      is(sent(ticked(circle(), 1), 0, 1).stuck(), 5);
      BubbleTorus x = ticked(sent(of(2, 4, 1, 0, 2, 0), 7, 1), 1);         // by 2 to 1, where CRITICAL is
      is(x.node(7, 0), 1);
      is(x.stuck(), 1);
    });
    test("26: DELIVERED ones are not STUCK", () -> { BubbleTorus x = ticked(sent(hungryForGood(0), 2, 0), 5); is(x.look(8), 0); is(ticked(sent(hungryForGood(0), 0, 2), 5).stuck(), 1); });
    test("27: without packets it is not DEAD", () -> { is(new BubbleTorus().dead(), 0); is(ticked(sent(new BubbleTorus(), 0, 1), 2).dead(), 0); });
    test("27: DEAD if none of the first ones CAN GO ON", () -> { is(hungryForGood(0).dead(), 1); is(ticked(circle(), 1).dead(), 1); });
    test("27: not DEAD while one CAN GO ON", () -> { BubbleTorus x = sent(hungryForGood(0), 0, 1); is(x.dead(), 0); x.tick(1); is(x.dead(), 0); x.tick(1); is(x.dead(), 1); });
    test("27: what is behind a first one does not keep it alive", () -> is(sent(hungryForGood(0), 1, 3).dead(), 1));
  }

  // ---- promises 28 to 30

  private static void through() {
    test("28: 0 if nothing is on its way", () -> { is(new BubbleTorus().through(), 0); is(ticked(sent(new BubbleTorus(), 0, 1), 2).through(), 0); });
    test("28: to the TICK in which the last one is DELIVERED", () -> { is(sent(new BubbleTorus(), 0, 1).through(), 2); is(ticked(sent(new BubbleTorus(), 0, 1), 1).through(), 1); is(sentTimes(new BubbleTorus(), 6, 0, 1).through(), 7); });
    test("28: NONE if they are not DELIVERED", () -> { none(hungryForGood(0).through(), hungryForGood(1).through(), circle().through()); });
    test("28: NONE though others are DELIVERED", () -> none(sent(hungryForGood(0), 0, 1, 2, 3).through()));
    test("28: a MARK that ends in an idle TICK lets go", () -> {
      BubbleTorus x = sent(barredWithoutAdaptive(), 1, 2);
      none(x.through());
      x.bound(5);
      is(x.through(), 3);
    });
    test("28: in THOUGHT alone", () -> same(() -> { BubbleTorus x = busy(); x.through(); return x; }, BoundariesTest::busy));
  }
  /** As barredForGood, with A 0: 3 by 3, all delivered, node 1 BARRED in row 0, BOUND 0. */
  private static BubbleTorus barredWithoutAdaptive() {
    BubbleTorus x = sent(of(3, 3, 2, 0, 1, 2), 1, 4, 1, 4, 1, 4, 1, 4, 0, 4, 0, 4, 0, 4);
    x.tick(4);
    x.bound(0);
    x.tick(10);
    is(x.look(8), 7);
    is(x.ring(0, 8), 2);
    return x;
  }
  private static void arrives() {
    test("29: NONE if NODES can't be", () -> { BubbleTorus x = new BubbleTorus(); none(x.arrives(-1, 0), x.arrives(0, -1), x.arrives(9, 0), x.arrives(0, 9), x.arrives(MOST, LEAST)); });
    test("29: NONE to itself", () -> { for (int v = 0; v < 9; v++) none(new BubbleTorus().arrives(v, v)); });
    test("29: NONE from a full DOOR", () -> { BubbleTorus x = sentTimes(new BubbleTorus(), 5, 0, 1); is(x.arrives(0, 1), 7); sent(x, 0, 1); none(x.arrives(0, 1)); is(x.arrives(1, 0), 2); });
    test("29: NONE as the 251st", () -> {
      BubbleTorus x = crowd();
      for (int v = 0; v < 9; v++) x.send(v, 15);
      x.tick(100);
      is(x.arrives(12, 13), 2);
      sent(x, 12, 13);
      x.tick(100);
      none(x.arrives(12, 13));
    });
    test("29: it alone counts", () -> { BubbleTorus x = hungryForGood(0); none(x.through()); is(x.arrives(0, 1), 2); is(x.arrives(2, 3), 2); });
    test("29: NONE if it does not arrive", () -> { none(of(2, 2, 1, 0, 2, 0).arrives(1, 0), hungryForGood(0).arrives(1, 3)); });
    test("29: the longest way", () -> is(of(4, 4, 1, 0, 0, 0).arrives(0, 10), 5));
    test("29: in THOUGHT alone", () -> same(() -> { BubbleTorus x = busy(); x.arrives(0, 8); x.arrives(3, 4); return x; }, BoundariesTest::busy));
  }
  private static void enters() {
    test("30: no such NODE", () -> { BubbleTorus x = new BubbleTorus(); for (int d = 0; d < 4; d++) none(x.enters(-1, d), x.enters(9, d), x.enters(LEAST, d), x.enters(MOST, d)); });
    test("30: no such DIRECTION", () -> { BubbleTorus x = new BubbleTorus(); none(x.enters(0, -1), x.enters(0, 4), x.enters(0, LEAST), x.enters(0, MOST)); });
    test("30: a NODE without packets might, too", () -> { for (int v = 0; v < 9; v++) for (int d = 0; d < 4; d++) is(new BubbleTorus().enters(v, d), 1); });
    test("30: not while it is BARRED", () -> { BubbleTorus x = barredForGood(); is(x.enters(1, 0), 0); is(x.enters(0, 0), 1); is(x.enters(2, 0), 1); });
    test("30: BARRED in one RING alone", () -> { BubbleTorus x = barredForGood(); for (int d = 1; d < 4; d++) is(x.enters(1, d), 1); });
    test("30: with E 1 and RULE 2 all but the NODE ahead of CRITICAL", () -> {
      BubbleTorus x = of(3, 3, 1, 0, 2, 0);
      int[][] no = {{2, 0}, {5, 0}, {8, 0}, {1, 1}, {4, 1}, {7, 1}, {6, 2}, {7, 2}, {8, 2}, {3, 3}, {4, 3}, {5, 3}};
      int sum = 0;
      for (int[] n : no) is(x.enters(n[0], n[1]), 0);
      for (int v = 0; v < 9; v++) for (int d = 0; d < 4; d++) sum += x.enters(v, d);
      is(sum, 36 - no.length);
    });
  }

  // ---- promise 31

  private static void found(BubbleTorus x, int... due) { for (int what = 0; what < 5; what++) is(x.schedules(what), due[what]); }
  private static void schedules() {
    test("31: an empty TORUS has one STATE and one row", () -> { found(new BubbleTorus(), 1, 0, 1, 0, 6); found(of(4, 2, 1, 0, 0, 0), 1, 0, 1, 0, 2); });
    test("31: 3 packets can be", () -> found(sent(of(3, 3, 2, 0, 0, 0), 0, 1, 3, 4, 6, 7), 27, 0, 90, 3, 5));
    test("31: NONE with 4 packets", () -> { BubbleTorus x = sent(of(3, 3, 2, 0, 0, 0), 0, 1, 3, 4, 6, 7, 8, 2); for (int k = 0; k < 5; k++) none(x.schedules(k)); });
    test("31: DELIVERED ones do not count among the 3", () -> {
      BubbleTorus x = sent(of(3, 3, 2, 0, 0, 0), 0, 1, 3, 4, 6, 7, 8, 2);
      x.tick(2);
      found(x, 1, 0, 1, 0, 6);
      found(sent(x, 0, 1, 3, 4, 6, 7), 27, 0, 90, 3, 5);
    });
    test("31: 400 STATES can be", () -> found(sent(of(2, 4, 1, 3, 0, 0), 4, 6, 3, 6, 0, 2), 400, 0, 54432, 3, 1));
    test("31: NONE with 401 STATES", () -> { BubbleTorus x = sent(of(3, 2, 1, 1, 0, 0), 0, 5, 0, 3, 0, 4); for (int k = 0; k < 5; k++) none(x.schedules(k)); });
    test("31: NONE with many more STATES", () -> { BubbleTorus x = sent(of(4, 4, 4, 3, 0, 0), 0, 10, 1, 11, 2, 8); for (int k = 0; k < 5; k++) none(x.schedules(k)); });
    test("31: what -1 can't be", () -> none(new BubbleTorus().schedules(-1), new BubbleTorus().schedules(LEAST)));
    test("31: what 5 can't be", () -> none(new BubbleTorus().schedules(5), new BubbleTorus().schedules(MOST)));
    // 6 STATES and 5 STEPS each, no queue in common: 6 * 6 * 6, 15! / 5! 5! 5!; more rows there can hardly be
    test("31: rows are counted up to 1000003", () -> found(sent(of(4, 4, 1, 0, 0, 0), 0, 10, 5, 15, 10, 0), 216, 0, 756756, 3, 3));
    test("31: behind too many STATES the next ones answer for themselves", () -> {
      BubbleTorus x = sent(of(4, 4, 4, 3, 0, 0), 0, 10, 1, 11, 2, 8);
      none(x.schedules(0));
      x.tick(20);
      found(x, 1, 0, 1, 0, 16);
      found(sent(x, 0, 1), 4, 0, 2, 1, 15);
    });
    test("31: of what came by another DIRECTION", () -> {
      BubbleTorus x = ticked(sent(of(3, 3, 2, 0, 0, 0), 0, 5), 1);         // by 1 to 2, then by 2
      is(x.packet(0, 5), 1);
      found(x, 3, 0, 1, 1, 5);
      found(ticked(sent(of(3, 3, 2, 1, 0, 0), 4, 1), 1), 2, 0, 1, 0, 6);   // by 3, in ADAPTIVE
    });
    test("31: a STATE with packets and no STEP", () -> { found(hungryForGood(0), 1, 1, 0, 0, 2); found(sent(hungryForGood(0), 0, 1), 3, 1, 0, 1, 1); });
    test("31: nobody is BARRED", () -> {
      BubbleTorus x = sent(barredWithoutAdaptive(), 1, 2);
      is(x.enters(1, 0), 0);
      found(x, 3, 0, 1, 1, 5);
    });
    test("31: the STATE that is counts, too", () -> { BubbleTorus x = ticked(sent(of(3, 3, 2, 0, 0, 0), 0, 1), 1); found(x, 2, 0, 1, 1, 5); });
    test("31: both lanes are STEPS", () -> found(sent(of(3, 3, 2, 1, 0, 0), 0, 1), 4, 0, 2, 1, 5));
    test("31: a full ADAPTIVE queue is no STEP", () -> {
      // 0 in ADAPTIVE of node 1, its TO, or gone; 1 in the door, ADAPTIVE (if 0 is gone), ESCAPE, or gone: 2 * 4 less 1
      BubbleTorus x = ticked(sent(of(3, 3, 2, 1, 0, 0), 0, 1, 0, 1), 1);
      is(x.packet(0, 3), 2);
      is(x.schedules(0), 7);
    });
    test("31: the RULE binds STEPS", () -> {
      is(sentTimes(of(3, 3, 2, 0, 0, 0), 2, 0, 1).schedules(3), 2);
      is(sentTimes(of(3, 3, 2, 0, 1, 0), 2, 0, 1).schedules(3), 1);
      is(sentTimes(of(3, 3, 2, 0, 2, 0), 2, 2, 0).schedules(3), 1);
    });
    test("31: the order within queues is of the STATE", () -> found(sent(of(3, 3, 2, 0, 0, 0), 0, 4, 1, 4), 13, 0, 7, 2, 4));
    test("31: the order within queues is of the STATE, whose ways part, too", () -> found(sent(of(4, 2, 2, 0, 0, 0), 0, 2, 1, 3), 17, 0, 16, 2, 4));
    test("31: where CRITICAL is is of the STATE", () -> {
      found(sent(of(4, 2, 1, 1, 2, 0), 2, 0), 9, 0, 4, 1, 2);
      found(sent(of(2, 4, 1, 1, 2, 0), 4, 0), 9, 0, 4, 1, 2);              // in a column
    });
    test("31: where CRITICAL went counts in the next STATES", () ->
      found(sent(of(4, 2, 1, 0, 2, 0), 2, 0, 2, 3), 4, 1, 0, 1, 2));       // 0 leaves CRITICAL in 3, for good: 1 may not enter there
    test("31: the fewest free places of any RING are 0 if one is full", () -> is(sent(of(2, 2, 1, 0, 0, 0), 0, 1, 1, 0).schedules(4), 0));
    test("31: in THOUGHT alone", () ->
      same(() -> { BubbleTorus x = sent(of(4, 2, 1, 1, 2, 0), 2, 0, 1, 6, 3, 0); for (int k = 0; k < 5; k++) x.schedules(k); return x; },
          () -> sent(of(4, 2, 1, 1, 2, 0), 2, 0, 1, 6, 3, 0)));
  }

  // ---- promise 32

  private static void notAlone(int n, int e, int rule) { for (int what = 0; what < 8; what++) none(new BubbleTorus().alone(n, e, rule, what)); }
  private static void isAlone(int n, int e, int rule, int... due) { BubbleTorus x = new BubbleTorus(); for (int what = 0; what < 8; what++) is(x.alone(n, e, rule, what), due[what]); }
  private static void alone() {
    test("32: N 1 can't be", () -> { for (int n : new int[] {1, 0, -1, LEAST}) notAlone(n, 1, 0); });
    test("32: N 5 can't be", () -> { for (int n : new int[] {5, MOST}) notAlone(n, 1, 0); });
    test("32: E 0 can't be", () -> { for (int n = 2; n <= 4; n++) for (int e : new int[] {0, -1, LEAST}) notAlone(n, e, 0); });
    test("32: N 2 with E 4 can't be", () -> { for (int e : new int[] {4, MOST}) notAlone(2, e, 0); });
    test("32: N 3 with E 4 can't be", () -> { for (int e : new int[] {4, MOST}) notAlone(3, e, 0); });
    test("32: N 4 with E 2 can't be", () -> { for (int e : new int[] {2, 3, 4}) notAlone(4, e, 0); });
    test("32: RULE -1 can't be", () -> { notAlone(2, 2, -1); notAlone(2, 2, LEAST); });
    test("32: RULE 3 can't be", () -> { notAlone(2, 2, 3); notAlone(2, 2, MOST); });
    test("32: what -1 can't be", () -> none(new BubbleTorus().alone(2, 2, 0, -1), new BubbleTorus().alone(2, 2, 0, LEAST)));
    test("32: what 8 can't be", () -> none(new BubbleTorus().alone(2, 2, 0, 8), new BubbleTorus().alone(2, 2, 0, MOST)));
    // N 2: all packets have none to go. E + 1 fillings a queue; NODE 0 full: E + 1 STATES, WAIT: E leave 1, then one 0
    test("32: N 2 with E 1 can be", () -> isAlone(2, 1, 0, 4, 1, 0, -1, 2, 2, 1, 2));
    test("32: N 2 with E 3 can be", () -> isAlone(2, 3, 0, 16, 1, 0, -1, 6, 4, 1, 4));
    test("32: N 3 with E 1 can be", () -> isAlone(3, 1, 0, 27, 8, 1, 3, 3, 18, 1, 4));
    test("32: N 3 with E 3 can be", () -> {
      BubbleTorus x = new BubbleTorus();
      int[] due = {15 * 15 * 15, 8 * 8 * 8, 4 * 4 * 4, 9, 9, 8 * 15 * 15, 1};  // 1 + 2 + 4 + 8 queues; dead: all first ones with 1 to go
      for (int what = 0; what < 7; what++) is(x.alone(3, 3, 0, what), due[what]);
    });
    test("32: N 4 with E 1 can be", () -> isAlone(4, 1, 0, 256, 81, 16, 4, 4, 192, 1, 7));
    // with E 1 and RULE 1 nothing ever enters: the empty STATE alone, DENIED, but without a STEP
    test("32: RULE 1 with E 1 can be here", () -> { for (int n = 2; n <= 4; n++) isAlone(n, 1, 1, 1, 0, 0, -1, 0, 1, 0, 0); });
    test("32: RULE 1 needs two places", () -> isAlone(2, 2, 1, 4, 0, 0, -1, 2, 2, 1, 2));   // one packet at most in each
    test("32: RULE 2 needs two places where CRITICAL is", () -> isAlone(2, 2, 2, 6, 0, 0, -1, 3, 3, 1, 3));
    test("32: CRITICAL is at NODE 0 at first", () -> isAlone(2, 1, 2, 2, 0, 0, -1, 1, 2, 1, 1));
    test("32: CRITICAL moves as what CONTINUES takes its last place", () -> {
      // N 3, E 1: one to go enters 2, CONTINUES to 0: CRITICAL is at 2 then, and NODE 0 is let ENTER; by turns it is at all
      BubbleTorus x = new BubbleTorus();
      is(x.alone(3, 1, 2, 0), 27);
      is(x.alone(3, 1, 2, 4), 2);
      is(x.alone(3, 1, 2, 5), 21);
    });
    test("32: no DEAD one with RULES 1 and 2", () -> {
      BubbleTorus x = new BubbleTorus();
      for (int n = 2; n <= 4; n++) for (int e = 1; e <= (n == 4 ? 1 : 3); e++) for (int rule = 1; rule <= 2; rule++) {
        is(x.alone(n, e, rule, 2), 0);
        none(x.alone(n, e, rule, 3));
      }
    });
    test("32: the empty STATE is not DEAD", () -> { is(new BubbleTorus().alone(2, 1, 1, 0), 1); is(new BubbleTorus().alone(2, 1, 1, 2), 0); });
    test("32: STARVING needs an endless row", () -> { is(new BubbleTorus().alone(2, 1, 1, 6), 0); is(new BubbleTorus().alone(2, 1, 0, 6), 1); });
    test("32: others may ENTER while it is STARVING", () -> is(new BubbleTorus().alone(2, 1, 0, 6), 1));
    test("32: no ENTERING is in a WAIT", () -> { is(new BubbleTorus().alone(2, 1, 0, 7), 2); is(new BubbleTorus().alone(3, 1, 0, 7), 4); });
    test("32: WAIT ends as it is let ENTER", () -> is(new BubbleTorus().alone(2, 3, 0, 7), 4));   // 3 leave NODE 1, one leaves 0
    // counted by PlainModel, too; those of E 1 and of N 2 by hand
    test("32: all that can be", () -> {
      int[][] due = {
        {2, 1, 0, 4, 1, 0, -1, 2, 2, 1, 2}, {2, 1, 1, 1, 0, 0, -1, 0, 1, 0, 0}, {2, 1, 2, 2, 0, 0, -1, 1, 2, 1, 1},
        {2, 2, 0, 9, 1, 0, -1, 4, 3, 1, 3}, {2, 2, 1, 4, 0, 0, -1, 2, 2, 1, 2}, {2, 2, 2, 6, 0, 0, -1, 3, 3, 1, 3},
        {2, 3, 0, 16, 1, 0, -1, 6, 4, 1, 4}, {2, 3, 1, 9, 0, 0, -1, 4, 3, 1, 3}, {2, 3, 2, 12, 0, 0, -1, 5, 4, 1, 4},
        {3, 1, 0, 27, 8, 1, 3, 3, 18, 1, 4}, {3, 1, 1, 1, 0, 0, -1, 0, 1, 0, 0}, {3, 1, 2, 27, 0, 0, -1, 2, 21, 1, 4},
        {3, 2, 0, 343, 64, 8, 6, 6, 196, 1, 7}, {3, 2, 1, 117, 0, 0, -1, 5, 92, 1, 8}, {3, 2, 2, 441, 0, 0, -1, 5, 266, 1, 10},
        {3, 3, 0, 3375, 512, 64, 9, 9, 1800, 1, 10}, {3, 3, 1, 1267, 0, 0, -1, 8, 904, 1, 13}, {3, 3, 2, 4725, 0, 0, -1, 8, 2580, 1, 15},
        {4, 1, 0, 256, 81, 16, 4, 4, 192, 1, 7}, {4, 1, 1, 1, 0, 0, -1, 0, 1, 0, 0}, {4, 1, 2, 256, 0, 0, -1, 3, 208, 1, 9}
      };
      for (int[] a : due) for (int what = 0; what < 8; what++) is(new BubbleTorus().alone(a[0], a[1], a[2], what), a[3 + what]);
    });
    test("32: each that can be, asked one behind the other", () -> {
      BubbleTorus x = new BubbleTorus();
      for (int turn = 0; turn < 2; turn++) for (int n = 2; n <= 4; n++) for (int e = 1; e <= (n == 4 ? 1 : 3); e++) for (int rule = 0; rule < 3; rule++) {
        for (int what = 0; what < 8; what++) is(x.alone(n, e, rule, what), new BubbleTorus().alone(n, e, rule, what));
      }
    });
    test("32: asked by turns each answers for itself", () -> {
      BubbleTorus x = new BubbleTorus();
      is(x.alone(3, 3, 2, 0), 4725);
      is(x.alone(2, 1, 0, 0), 4);
      is(x.alone(4, 1, 2, 0), 256);
      is(x.alone(3, 3, 2, 4), 8);
      is(x.alone(2, 1, 0, 5), 2);
    });
    test("32: it changes nothing", () -> same(() -> { BubbleTorus x = busy(); x.alone(3, 3, 2, 0); return x; }, BoundariesTest::busy));
  }

  // ---- promise 33

  private static void look() {
    test("33: what -1 is NONE - 9", () -> { is(new BubbleTorus().look(-1), -10); is(new BubbleTorus().look(LEAST), -10); });
    test("33: what 20 is NONE - 9", () -> { is(new BubbleTorus().look(20), -10); is(new BubbleTorus().look(MOST), -10); });
    test("33: what 19 is the last one", () -> { BubbleTorus x = sentTimes(new BubbleTorus(), 6, 0, 1); x.pattern(3, 0); is(x.look(19), 1); });
    test("33: STATE may be any int, -10 too", () -> { for (int v : new int[] {-10, LEAST, MOST}) is(stated(new BubbleTorus(), v).look(17), v); });
    test("33: each packet is in one place alone", () -> {
      BubbleTorus x = busy();
      is(x.look(8) > 0, true);
      for (int what = 9; what <= 11; what++) is(x.look(what) > 0, true);
      is(x.look(8) + x.look(9) + x.look(10) + x.look(11), x.look(7));
    });
    test("33: MARKS there ever were stay as they end", () -> { BubbleTorus x = ticked(hungry(1), 10); is(x.look(15), 1); is(x.look(16), 0); });
    test("33: MARKS there ever were are counted in each RING", () -> { BubbleTorus x = ticked(sentTimes(hungry(1), 6, 3, 4), 1); is(x.look(15), 2); is(x.look(16), 2); });
    test("33: LATE, HOPS and OUT OF ORDER are 0 at first", () -> { BubbleTorus x = sent(new BubbleTorus(), 0, 1); for (int k : new int[] {8, 10, 11, 12, 13, 14, 15, 16, 18, 19}) is(x.look(k), 0); is(x.look(9), 1); });
    test("33: LATE is of DELIVERED ones alone, HOPS of all", () -> {
      BubbleTorus x = ticked(sent(of(4, 2, 2, 0, 0, 0), 0, 1, 4, 6), 2);
      is(x.look(8), 1);
      is(x.look(12), 1);
      is(x.look(13), 3);
      is(x.look(14), 0);
    });
    test("33: LATE of all together", () -> is(late().look(12), 7));
    test("33: by ADAPTIVE is of HOPS", () -> { BubbleTorus x = ticked(sent(of(4, 4, 2, 1, 0, 0), 0, 10), 9); is(x.look(13), 4); is(x.look(14), 4); });
    test("33: OUT OF ORDER of all together", () -> is(crossing().look(18), 1));
    test("33: the 512th call answers as any other", () -> {
      BubbleTorus x = new BubbleTorus();
      for (int i = 0; i < 510; i++) x.tick(1 + i % 100);
      is(x.send(0, 1), 0);                                                 // the 511th
      is(x.look(7), 1);                                                    // the 512th
    });
  }
}

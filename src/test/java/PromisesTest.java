/** For each promise of the document some runs whose answers were worked out by hand from its words. */
public final class PromisesTest {
  private static int wrong = 0;
  private static int promise = 0;

  private static void due(String call, long got, long want) {
    if (got != want) {
      wrong++;
      System.out.println("promise " + promise + ": " + call + " answered " + got + ", due is " + want);
    }
  }
  private static void due(String call, boolean got, boolean want) { due(call, got ? 1 : 0, want ? 1 : 0); }
  private static BubbleTorus of(int w, int h, int e, int a, int rule, int bound) {
    BubbleTorus x = new BubbleTorus();
    due("torus", x.torus(w, h, e, a, rule, bound), true);
    return x;
  }
  private static BubbleTorus sent(BubbleTorus x, int... pairs) {
    for (int i = 0; i < pairs.length; i += 2) due("send", x.send(pairs[i], pairs[i + 1]) >= 0, true);
    return x;
  }

  public static void main(String[] args) {
    promise = 1; newObject();
    promise = 2; torus();
    promise = 3; send();
    promise = 4; shower();
    promise = 5; pattern();
    promise = 6; tick();
    promise = 7; state();
    promise = 8; bound();
    promise = 9; packet();
    promise = 10; queue();
    promise = 11; shape();
    promise = 15; ring();
    promise = 17; hungerAndMarks();
    promise = 18; node();
    promise = 19; move();
    promise = 20; linkAndTrace();
    promise = 22; pair();
    promise = 23; late();
    promise = 25; goesOn();
    promise = 28; through();
    promise = 29; arrives();
    promise = 30; enters();
    promise = 31; schedules();
    promise = 32; alone();
    promise = 33; look();
    System.out.println(wrong == 0 ? "all promises hold" : wrong + " answers are not as due");
    if (wrong != 0) System.exit(1);
  }

  private static void newObject() {
    BubbleTorus x = new BubbleTorus();
    int[] first = {3, 3, 2, 1, 1, 8, 0, 0, 0, 0, 0, 0, 0, 0, 0, 0, 0, 0, 0, 0};
    for (int what = 0; what < first.length; what++) due("look(" + what + ")", x.look(what), first[what]);
    due("NONE", BubbleTorus.NONE, -1);
  }

  private static void torus() {
    BubbleTorus x = new BubbleTorus();
    x.state(77);
    sent(x, 0, 1, 0, 2);
    x.tick(2);
    int[][] bad = {{1, 3, 2, 1, 0, 8}, {5, 3, 2, 1, 0, 8}, {3, 1, 2, 1, 0, 8}, {3, 5, 2, 1, 0, 8}, {3, 3, 0, 1, 0, 8},
        {3, 3, 5, 1, 0, 8}, {3, 3, 2, -1, 0, 8}, {3, 3, 2, 4, 0, 8}, {3, 3, 2, 1, -1, 8}, {3, 3, 2, 1, 3, 8},
        {3, 3, 2, 1, 0, -1}, {3, 3, 2, 1, 0, 100}, {3, 3, 1, 1, 1, 8}};
    for (int[] b : bad) due("torus that can't be", x.torus(b[0], b[1], b[2], b[3], b[4], b[5]), false);
    due("look(7) kept", x.look(7), 2);
    due("look(6) kept", x.look(6), 2);
    due("look(2) kept", x.look(2), 2);
    due("torus(4, 2, 1, 0, 2, 99)", x.torus(4, 2, 1, 0, 2, 99), true);
    int[] first = {4, 2, 1, 0, 2, 99, 0, 0, 0, 0, 0, 0, 0, 0, 0, 0, 0, 77, 0, 0};
    for (int what = 0; what < first.length; what++) due("look(" + what + ")", x.look(what), first[what]);
    due("move(-1, 0)", x.move(-1, 0), 0);
    due("link(0, 0)", x.link(0, 0), 0);
    due("torus(2, 2, 4, 3, 0, 0)", x.torus(2, 2, 4, 3, 0, 0), true);
    allAsAtFirst();
    due("torus(4, 4, 2, 0, 1, 1)", x.torus(4, 4, 2, 0, 1, 1), true);
    due("torus(3, 3, 1, 0, 0, 1)", x.torus(3, 3, 1, 0, 0, 1), true);
  }

  /** Behind marks, hunger, what was lost and what is on its way a new torus knows nothing of them. */
  private static void allAsAtFirst() {
    BubbleTorus x = hungryRing(2);
    x.tick(5);
    for (int i = 0; i < 7; i++) x.pattern(4, 0);
    due("lost ahead", x.look(19) > 0, true);
    due("MARK ahead", x.look(16), 1);
    x.torus(3, 3, 2, 1, 2, 8);
    BubbleTorus y = of(3, 3, 2, 1, 2, 8);
    for (int what = 0; what < 20; what++) due("look(" + what + ")", x.look(what), y.look(what));
    for (int r = 0; r < 12; r++) for (int what = 0; what < 11; what++) due("ring", x.ring(r, what), y.ring(r, what));
    for (int v = 0; v < 9; v++) for (int i = 0; i < 6; i++) {
      due("node", x.node(v, i), 0);
      due("hunger", x.hunger(v, i % 4), 0);
      due("link", x.link(v, i % 4), 0);
    }
    due("the first number", x.send(1, 0), 0);
    int[] door = {1, 0, 0, 0, 1, -1, 0, -1, 0, 0, -1};
    for (int what = 0; what <= 10; what++) due("packet(0, " + what + ")", x.packet(0, what), door[what]);
    due("trace(0, 0)", x.trace(0, 0), 1);
    due("trace(0, 1)", x.trace(0, 1), -1);
  }

  private static void send() {
    BubbleTorus x = new BubbleTorus();
    for (int i = 0; i < 6; i++) due("send(2, 3)", x.send(2, 3), i);
    due("send into a full door", x.send(2, 4), -1);
    due("lost by send", x.look(19), 0);
    due("send(3, 2)", x.send(3, 2), 6);
    int[][] bad = {{-1, 0}, {0, -1}, {9, 0}, {0, 9}, {4, 4}};
    for (int[] b : bad) due("send that can't be", x.send(b[0], b[1]), -1);
    due("queue(2, 0, 0, 5)", x.queue(2, 0, 0, 5), 5);
    due("queue(2, 0, 0, 6)", x.queue(2, 0, 0, 6), -1);
    x.torus(4, 4, 4, 3, 0, 0);
    int number = 0;
    for (int i = 0; i < 60 && number < 250; i++) {
      for (int v = 0; v < 16 && number < 250; v++) {
        int got = x.send(v, (v + 1) % 16);
        if (got >= 0) { due("send", got, number); number++; }
      }
      x.tick(2);
    }
    due("packets", x.look(7), 250);
    x.tick(100);
    due("delivered", x.look(8), 250);
    due("the 251st", x.send(0, 1), -1);
    due("arrives as the 251st", x.arrives(0, 1), -1);
    due("shower behind 250", x.shower(3), 0);
    due("lost behind 250", x.look(19), 3);
  }

  private static void shower() {
    // 0 -> 1013904223 -> 1196435762 -> 3519870697 -> 2868466484; by 256: 3960563, 4673577, 13749494, 11204947
    BubbleTorus x = new BubbleTorus();
    due("shower(1)", x.shower(1), 1);
    due("FROM", x.packet(0, 0), 5);
    due("TO", x.packet(0, 1), 1);
    due("STATE", x.look(17), 1196435762);
    due("shower(1)", x.shower(1), 1);
    due("FROM", x.packet(1, 0), 5);
    due("TO", x.packet(1, 1), 3);
    due("STATE", x.look(17), (int) 2868466484L);
    for (int n : new int[] {0, 61, -1, Integer.MAX_VALUE}) due("shower that can't be", x.shower(n), -1);
    due("no draw", x.look(17), (int) 2868466484L);
    // with the first draw again: NODE 5 and then 1; from a full door they are lost, but drawn
    x.torus(3, 3, 2, 1, 1, 8);
    x.state(0);
    sent(x, 5, 0, 5, 0, 5, 0, 5, 0, 5, 0, 5, 0);
    due("shower(1) lost", x.shower(1), 0);
    due("lost", x.look(19), 1);
    due("drawn", x.look(17), 1196435762);
    due("shower(60)", x.shower(60) + x.look(19), 61);
  }

  private static void pattern() {
    BubbleTorus x = of(3, 3, 2, 1, 1, 8);
    due("kind 0", x.pattern(0, -5), 9);               // half of 3, downwards: one on, both ways
    due("0 to 4", x.packet(0, 1), 4);
    due("8 to 0", x.packet(8, 1), 0);
    x = of(4, 2, 2, 1, 1, 8);
    due("kind 0", x.pattern(0, 0), 8);                // two columns and one row on
    due("0 to 6", x.packet(0, 1), 6);
    due("7 to 1", x.packet(7, 1), 1);
    x = of(3, 3, 2, 1, 1, 8);
    due("kind 1", x.pattern(1, 0), 8);                // the middle one would send to itself
    due("0 to 8", x.packet(0, 1), 8);
    due("5 to 3", x.packet(4, 1), 3);
    due("lost by sending to itself", x.look(19), 0);
    x = of(3, 3, 2, 1, 1, 8);
    due("kind 2", x.pattern(2, 0), 6);
    due("1 to 3", x.packet(0, 1), 3);
    due("5 to 7", x.packet(3, 1), 7);
    x = of(2, 4, 2, 1, 1, 8);
    due("kind 2", x.pattern(2, 0), 6);                // 0 -> 0, 1 -> 2, 2 -> 1, 3 -> 3, 4 -> 0, 5 -> 2, 6 -> 1, 7 -> 3
    due("1 to 2", x.packet(0, 1), 2);
    due("6 to 1", x.packet(4, 1), 1);
    x = of(4, 2, 2, 1, 1, 8);
    due("kind 3", x.pattern(3, 0), 8);
    due("3 to 0", x.packet(3, 1), 0);
    x = of(3, 3, 2, 1, 1, 8);
    due("kind 4", x.pattern(4, 7), 8);
    due("6 to 7", x.packet(6, 1), 7);
    due("8 to 7", x.packet(7, 0), 8);
    for (int i = 0; i < 5; i++) due("kind 4", x.pattern(4, 7), 8);
    due("kind 4 into full doors", x.pattern(4, 7), 0);
    due("lost", x.look(19), 8);
    due("kind 3 beside full doors", x.pattern(3, 7), 1);
    due("lost", x.look(19), 16);
    int[][] bad = {{-1, 0}, {5, 0}, {4, -1}, {4, 9}};
    for (int[] b : bad) due("pattern that can't be", x.pattern(b[0], b[1]), -1);
    due("lost", x.look(19), 16);
  }

  private static void tick() {
    BubbleTorus x = sent(of(3, 3, 2, 1, 1, 8), 0, 1, 0, 1, 0, 8);
    for (int n : new int[] {0, 101, -1, Integer.MIN_VALUE}) due("tick that can't be", x.tick(n), -1);
    due("TICK", x.look(6), 0);
    due("tick(1)", x.tick(1), 0);
    due("tick(1)", x.tick(1), 1);
    due("tick(100)", x.tick(100), 2);
    due("TICK", x.look(6), 102);
    orderOfNodes();
    eldestFirst();
    outOfOrder();
    continuesFirst();
  }
  private static void orderOfNodes() {
    // node by node from TICK on: in tick 1 node 1 is ahead of node 0
    BubbleTorus x = sent(of(3, 3, 2, 1, 1, 8), 0, 3, 1, 4);
    x.tick(1);
    due("first move", x.move(0, 1), 0);
    due("second move", x.move(1, 1), 1);
    x = of(3, 3, 2, 1, 1, 8);
    x.tick(1);
    sent(x, 0, 3, 1, 4);
    x.tick(1);
    due("first move", x.move(0, 1), 1);
    due("second move", x.move(1, 1), 0);
    x.tick(17);
    sent(x, 0, 3, 1, 4);
    x.tick(1);                                        // TICK 19, node 1 is first again
    due("first move", x.move(0, 1), 1);
  }
  private static void eldestFirst() {
    // in node 1: 1 is first in the escape queue, 2 in the door; both want to node 4 by direction 2
    BubbleTorus x = sent(of(3, 3, 2, 0, 0, 8), 0, 4);
    x.tick(1);
    sent(x, 1, 4);
    x.tick(1);
    due("the eldest goes", x.move(0, 0), 0);
    due("one goes by a link", x.move(-1, 0), 1);
    x = sent(of(3, 3, 2, 0, 0, 8), 1, 4, 1, 4, 0, 4);
    x.tick(1);
    due("moves", x.move(-1, 0), 2);
    x.tick(1);
    due("the least number goes", x.move(0, 0), 1);
    due("the other one waits", x.packet(2, 4), 1);
  }
  private static void outOfOrder() {
    // both are in 5 as TICK is 2: 0 in the adaptive queue of 2, 1 in that of 1, which is looked at first
    BubbleTorus x = sent(of(3, 3, 2, 1, 0, 0), 0, 5, 0, 5);
    due("tick(2)", x.tick(2), 0);
    due("queue(5, 2, 1, 0)", x.queue(5, 2, 1, 0), 1);
    due("queue(5, 2, 2, 0)", x.queue(5, 2, 2, 0), 0);
    due("tick(1)", x.tick(1), 2);
    due("0 is out of order", x.packet(0, 9), 1);
    due("1 is not", x.packet(1, 9), 0);
    due("pair", x.pair(0, 5, 2), 1);
    due("look(18)", x.look(18), 1);
  }
  private static void continuesFirst() {
    // in node 1: 1 (from 0 to 2, direction 0 goes on in the ring) came later, 2 in the door is a later one;
    // 0 in the door of 1 is the eldest, but what continues is ahead of it
    BubbleTorus x = of(4, 2, 2, 0, 0, 8);
    sent(x, 1, 2, 1, 2, 0, 2);
    x.tick(1);
    due("0 went, 2 went", x.move(-1, 0), 2);
    x.tick(1);
    due("what continues goes", x.packet(2, 4), 2);
    due("the eldest waits", x.packet(1, 4), 1);
    due("hunger", x.hunger(1, 0), 1);
  }

  private static void state() {
    BubbleTorus x = new BubbleTorus();
    due("state(5)", x.state(5), 0);
    due("state(-7)", x.state(-7), 5);
    due("state(0)", x.state(0), -7);
    x.state(Integer.MIN_VALUE);
    x.torus(2, 2, 1, 1, 0, 0);
    due("STATE stays", x.look(17), Integer.MIN_VALUE);
    x.state(-1);                                      // -1664525 + 1013904223 = 1012239698, by 256: 3954061
    x.torus(3, 3, 2, 1, 1, 8);
    x.shower(1);
    due("FROM", x.packet(0, 0), 3954061 % 9);
  }

  private static void bound() {
    BubbleTorus x = new BubbleTorus();
    for (int v : new int[] {-1, 100, Integer.MAX_VALUE}) due("bound that can't be", x.bound(v), false);
    due("BOUND", x.look(5), 8);
    for (int v : new int[] {0, 1, 99}) {
      due("bound", x.bound(v), true);
      due("BOUND", x.look(5), v);
    }
    x = hungryRing(2);
    x.tick(4);
    due("OWNER", x.ring(0, 6), 0);
    due("MARK", x.ring(0, 7), 1);
    x.bound(0);
    due("MARKS stay", x.ring(0, 7), 1);
    x.tick(1);
    due("the MARK rests", x.ring(0, 7), 1);
    due("BARRED stays", x.ring(0, 8), 2);
    x.tick(1);
    due("HUNGER goes on", x.hunger(0, 0), 0);
    due("the MARK does not end", x.ring(0, 6), 0);
  }

  private static void packet() {
    BubbleTorus x = sent(of(4, 2, 2, 0, 0, 8), 0, 6);
    int[] door = {0, 6, 0, 0, 0, -1, 0, -1, 0, 0, -1};
    for (int what = 0; what <= 10; what++) due("packet(0, " + what + ")", x.packet(0, what), door[what]);
    x.tick(2);
    int[] way = {0, 6, 0, 1, 2, 0, 2, -1, 1, 0, 0};
    for (int what = 0; what <= 10; what++) due("packet(0, " + what + ")", x.packet(0, what), way[what]);
    x.tick(2);
    int[] end = {0, 6, 0, 3, 6, 2, 3, 3, 2, 0, 0};
    for (int what = 0; what <= 10; what++) due("packet(0, " + what + ")", x.packet(0, what), end[what]);
    due("packet(0, 11)", x.packet(0, 11), -1);
    due("packet(0, -1)", x.packet(0, -1), -1);
    due("packet(1, 0)", x.packet(1, 0), -1);
    due("packet(-1, 0)", x.packet(-1, 0), -1);
    x = sent(of(4, 2, 2, 1, 0, 8), 0, 1);
    x.tick(1);
    due("by adaptive", x.packet(0, 3), 2);
    due("entered", x.packet(0, 8), 0);
  }

  private static void queue() {
    BubbleTorus x = sent(of(3, 3, 2, 1, 0, 8), 0, 1, 0, 1, 0, 1);
    x.tick(1);                                        // one by a link in a tick, by the adaptive lane, if it can
    due("queue(0, 0, 0, -1)", x.queue(0, 0, 0, -1), 2);
    due("queue(0, 0, 0, 0)", x.queue(0, 0, 0, 0), 1);
    due("queue(0, 0, 0, 1)", x.queue(0, 0, 0, 1), 2);
    due("queue(0, 0, 0, 2)", x.queue(0, 0, 0, 2), -1);
    due("queue(0, 0, 0, -2)", x.queue(0, 0, 0, -2), -1);
    due("queue(1, 2, 0, 0)", x.queue(1, 2, 0, 0), 0);
    due("queue(1, 1, 0, -1)", x.queue(1, 1, 0, -1), 0);
    due("queue(1, 2, 1, -1)", x.queue(1, 2, 1, -1), 0);
    for (int d = 1; d <= 3; d++) due("a door has d 0 alone", x.queue(0, 0, d, -1), -1);
    int[][] bad = {{-1, 0, 0, -1}, {9, 0, 0, -1}, {0, -1, 0, -1}, {0, 3, 0, -1}, {0, 1, -1, -1}, {0, 1, 4, -1}, {0, 2, 4, -1}};
    for (int[] b : bad) due("queue that is none", x.queue(b[0], b[1], b[2], b[3]), -1);
    x.torus(3, 3, 2, 0, 0, 8);
    due("an adaptive queue without a place", x.queue(0, 2, 0, -1), 0);
  }

  private static void shape() {
    BubbleTorus x = of(4, 3, 2, 1, 1, 8);
    int[][] nexts = {{0, 1, 3, 4, 8}, {3, 0, 2, 7, 11}, {8, 9, 11, 0, 4}, {6, 7, 5, 10, 2}};
    for (int[] n : nexts) for (int d = 0; d < 4; d++) due("next(" + n[0] + ", " + d + ")", x.next(n[0], d), n[d + 1]);
    due("next(12, 0)", x.next(12, 0), -1);
    due("next(-1, 0)", x.next(-1, 0), -1);
    due("next(0, -1)", x.next(0, -1), -1);
    promise = 12;
    due("far(0, 2)", x.far(0, 2), 2);
    due("far(0, 3)", x.far(0, 3), 1);
    due("far(0, 10)", x.far(0, 10), 3);
    due("far(5, 5)", x.far(5, 5), 0);
    for (int[] b : new int[][] {{-1, 0}, {0, -1}, {12, 0}, {0, 12}}) due("far of none", x.far(b[0], b[1]), -1);
    promise = 13;
    due("profitable(0, 2)", x.profitable(0, 2), 3);
    due("profitable(0, 10)", x.profitable(0, 10), 11);
    due("profitable(0, 4)", x.profitable(0, 4), 4);
    due("profitable(4, 4)", x.profitable(4, 4), 0);
    for (int[] b : new int[][] {{-1, 0}, {0, -1}, {12, 0}, {0, 12}}) due("profitable of none", x.profitable(b[0], b[1]), -1);
    promise = 14;
    int[] way = {0, 0, 3};
    due("way(0, 10, -1)", x.way(0, 10, -1), 3);
    for (int i = 0; i < 3; i++) due("way(0, 10, " + i + ")", x.way(0, 10, i), way[i]);
    due("way(0, 10, 3)", x.way(0, 10, 3), -1);
    due("way(0, 10, -2)", x.way(0, 10, -2), -1);
    due("way(3, 3, -1)", x.way(3, 3, -1), 0);
    due("way(3, 3, 0)", x.way(3, 3, 0), -1);
    for (int[] b : new int[][] {{-1, 0}, {0, -1}, {12, 0}, {0, 12}}) due("way of none", x.way(b[0], b[1], -1), -1);
    promise = 16;
    int[] rings = {1, 4, 8, 12};
    for (int d = 0; d < 4; d++) due("ringOf(6, " + d + ")", x.ringOf(6, d), rings[d]);
    due("ringOf(12, 0)", x.ringOf(12, 0), -1);
    due("ringOf(0, 4)", x.ringOf(0, 4), -1);
    due("ringOf(0, -1)", x.ringOf(0, -1), -1);
    x.torus(2, 2, 2, 1, 1, 8);
    promise = 13;
    due("both ways are as near", x.profitable(0, 3), 15);
    promise = 14;
    due("the lesser", x.way(1, 2, 0), 0);
    due("the lesser", x.way(1, 2, 1), 2);
  }

  private static void ring() {
    BubbleTorus x = of(4, 2, 1, 0, 2, 0);
    int[] first = {0, 4, 4, 0, 4, 4, -1, -1, 0, 0, 4};
    for (int what = 0; what <= 10; what++) due("ring(1, " + what + ")", x.ring(1, what), first[what]);
    due("ring(3, 0)", x.ring(3, 0), 1);
    due("ring(3, 1)", x.ring(3, 1), 4);
    due("ring(6, 0)", x.ring(6, 0), 2);
    due("ring(6, 1)", x.ring(6, 1), 2);
    due("ring(6, 2)", x.ring(6, 2), 2);
    due("ring(11, 0)", x.ring(11, 0), 3);
    due("ring(11, 1)", x.ring(11, 1), 3);
    for (int[] b : new int[][] {{-1, 0}, {12, 0}, {0, -1}, {0, 11}}) due("ring that is none", x.ring(b[0], b[1]), -1);
    // from 2 to 0 by 3: as it goes on into 0, it takes the place of CRITICAL, which goes to 3
    sent(x, 2, 0);
    x.tick(1);
    due("CRITICAL", x.ring(0, 5), 0);
    due("in escape queues", x.ring(0, 3), 1);
    due("free", x.ring(0, 4), 3);
    due("entered", x.ring(0, 9), 1);
    x.tick(1);
    due("CRITICAL", x.ring(0, 5), 3);
    due("entered", x.ring(0, 9), 1);
    x.tick(1);
    due("CRITICAL stays", x.ring(0, 5), 3);
    due("free", x.ring(0, 4), 4);
    due("fewest free", x.ring(0, 10), 3);
    // now nothing enters 3, but 0 may be entered
    due("enters(2, 0)", x.enters(2, 0), 0);
    due("enters(3, 0)", x.enters(3, 0), 1);
    due("dead", sent(x, 2, 3).dead(), 1);
    x = sent(of(4, 2, 2, 0, 2, 0), 2, 0);
    x.tick(2);
    due("not the last free place", x.ring(0, 5), 0);
    x = sent(of(4, 2, 1, 0, 0, 0), 2, 0);
    x.tick(2);
    due("no CRITICAL with RULE 0", x.ring(0, 5), -1);
  }

  /** Node 1 sends four to 4, node 0 three: with RULE 1 node 0 may not enter for the ticks 1 to 4. */
  private static BubbleTorus hungryRing(int bound) {
    return sent(of(3, 3, 2, 0, 1, bound), 1, 4, 1, 4, 1, 4, 1, 4, 0, 4, 0, 4, 0, 4);
  }
  private static void hungerAndMarks() {
    BubbleTorus x = hungryRing(2);
    int[] hunger = {0, 1, 2, 3, 4, 0};
    int[] owner = {-1, -1, 0, 0, 0, -1};
    int[] mark = {-1, -1, 0, 1, 2, -1};
    int[] barred = {0, 0, 0, 2, 6, 0};
    for (int t = 0; t < 6; t++) {
      x.tick(1);
      due("hunger(0, 0) behind " + t, x.hunger(0, 0), hunger[t]);
      due("OWNER behind " + t, x.ring(0, 6), owner[t]);
      due("MARK behind " + t, x.ring(0, 7), mark[t]);
      due("BARRED behind " + t, x.ring(0, 8), barred[t]);
      due("MARKS behind " + t, x.look(16), owner[t] < 0 ? 0 : 1);
    }
    due("MARKS ever", x.look(15), 1);
    due("the most hunger", x.node(0, 4), 4);
    due("hunger(0, 4)", x.hunger(0, 4), -1);
    due("hunger(0, -1)", x.hunger(0, -1), -1);
    due("hunger(9, 0)", x.hunger(9, 0), -1);
    due("hunger(-1, 0)", x.hunger(-1, 0), -1);
    // 0 sends to 1, CRITICAL needs two places and there is one: hunger grows up to 999, a MARK goes round
    x = sent(of(2, 2, 1, 0, 2, 1), 1, 0, 3, 2);
    x.tick(1);
    due("OWNER", x.ring(0, 6), 1);
    due("OWNER", x.ring(1, 6), 3);
    due("look(15)", x.look(15), 2);
    x.tick(1);
    due("MARK", x.ring(0, 7), 0);
    due("BARRED", x.ring(0, 8), 1);
    x.tick(1);
    due("MARK", x.ring(0, 7), 1);
    due("the OWNER is not BARRED", x.ring(0, 8), 1);
    for (int i = 0; i < 12; i++) x.tick(100);
    due("at most", x.hunger(1, 0), 999);
    due("at most", x.node(1, 4), 999);
    // the most hunger is first, of several the least NODE
    x = sent(of(3, 3, 1, 0, 2, 0), 2, 0);
    x.tick(1);
    sent(x, 5, 3, 8, 6);
    x.tick(3);
    due("hunger(2, 0)", x.hunger(2, 0), 4);
    x.bound(3);
    x.tick(1);
    due("OWNER", x.ring(0, 6), 2);
    due("OWNER", x.ring(1, 6), 5);
    due("look(16)", x.look(16), 3);
    hungryAnew();
  }
  /** A MARK whose OWNER was not hungry for a while, as BOUND was 0, and is again, goes on. */
  private static void hungryAnew() {
    BubbleTorus x = hungryRing(2);
    x.tick(4);
    x.bound(0);
    x.tick(10);
    due("hunger(0, 0)", x.hunger(0, 0), 0);
    due("MARK", x.ring(0, 7), 1);
    sent(x, 1, 4, 1, 4, 1, 4, 1, 4, 0, 4, 0, 4);
    x.tick(1);
    x.bound(2);
    x.tick(1);
    due("hunger(0, 0)", x.hunger(0, 0), 1);
    due("OWNER", x.ring(0, 6), 0);
    due("MARK", x.ring(0, 7), 2);
    due("BARRED", x.ring(0, 8), 6);
    due("look(15)", x.look(15), 1);
  }

  private static void node() {
    BubbleTorus x = hungryRing(0);
    due("node(1, 0)", x.node(1, 0), 4);
    due("node(1, 1)", x.node(1, 1), 4);
    x.tick(2);
    due("node(1, 0)", x.node(1, 0), 2);
    due("node(1, 1)", x.node(1, 1), 3);
    due("node(4, 1)", x.node(4, 1), 1);
    due("node(1, 2)", x.node(1, 2), 4);
    due("node(4, 3)", x.node(4, 3), 1);
    due("node(0, 5)", x.node(0, 5), 0);
    x.tick(4);
    due("node(0, 5)", x.node(0, 5), 5);
    due("node(1, 5)", x.node(1, 5), 3);
    // 0 waits in the door of 3 until 1 has gone through 0 and taken CRITICAL to 3
    x = sent(of(4, 2, 1, 0, 2, 0), 3, 0, 2, 0);
    due("tick(4)", x.tick(4), 2);
    due("node(3, 5)", x.node(3, 5), 2);
    due("node(3, 4)", x.node(3, 4), 2);
    due("node(2, 5)", x.node(2, 5), 0);
    x = new BubbleTorus();
    due("node(0, 6)", x.node(0, 6), -1);
    due("node(0, -1)", x.node(0, -1), -1);
    due("node(9, 0)", x.node(9, 0), -1);
    due("node(-1, 0)", x.node(-1, 0), -1);
  }

  private static void move() {
    BubbleTorus x = sent(of(4, 2, 2, 0, 0, 8), 0, 2, 0, 4);
    x.tick(1);
    int[][] first = {{0, 0, 0, 1, 1}, {1, 0, 2, 1, 1}};
    due("move(-1, 0)", x.move(-1, 0), 2);
    for (int i = 0; i < 2; i++) for (int what = 0; what < 5; what++) due("move(" + i + ", " + what + ")", x.move(i, what), first[i][what]);
    x.tick(1);
    int[] second = {0, 1, 0, 1, 2};
    due("move(-1, 4)", x.move(-1, 4), 1);
    for (int what = 0; what < 5; what++) due("move(0, " + what + ")", x.move(0, what), second[what]);
    due("move(1, 0)", x.move(1, 0), -1);
    due("move(-2, 0)", x.move(-2, 0), -1);
    due("move(0, 5)", x.move(0, 5), -1);
    due("move(0, -1)", x.move(0, -1), -1);
    x.tick(1);
    due("nothing went", x.move(-1, 0), 0);
    // with an adaptive place free what could continue goes by that, and leaves the ring
    x = sent(of(4, 2, 2, 1, 0, 8), 0, 2);
    x.tick(1);
    due("by adaptive", x.move(0, 3), 2);
    due("by adaptive", x.move(0, 4), 0);
  }

  private static void linkAndTrace() {
    BubbleTorus x = sent(of(4, 2, 2, 1, 0, 8), 0, 2, 0, 2, 0, 6);
    x.tick(20);
    // 0 by direction 0, 1 by 1 (both nearer), 2 by row first, as direction 2 is free for it
    due("link(0, 0)", x.link(0, 0), 1);
    due("link(0, 1)", x.link(0, 1), 1);
    due("link(0, 2)", x.link(0, 2), 1);
    due("link(0, 3)", x.link(0, 3), 0);
    due("link(1, 0)", x.link(1, 0), 1);
    due("link(8, 0)", x.link(8, 0), -1);
    due("link(0, -1)", x.link(0, -1), -1);
    due("link(0, 4)", x.link(0, 4), -1);
    promise = 21;
    int[][] traces = {{0, 1, 2}, {0, 3, 2}, {0, 4, 5, 6}};
    for (int p = 0; p < 3; p++) {
      for (int i = 0; i < traces[p].length; i++) due("trace(" + p + ", " + i + ")", x.trace(p, i), traces[p][i]);
      due("trace beyond", x.trace(p, traces[p].length), -1);
      due("trace ahead", x.trace(p, -1), -1);
    }
    due("trace(3, 0)", x.trace(3, 0), -1);
    due("trace(-1, 0)", x.trace(-1, 0), -1);
    x = sent(of(4, 4, 2, 1, 0, 8), 0, 10);
    x.tick(5);
    due("trace(0, 4)", x.trace(0, 4), 10);
    due("trace(0, 5)", x.trace(0, 5), -1);
  }

  private static void pair() {
    BubbleTorus x = sent(of(3, 3, 2, 0, 0, 8), 0, 1, 0, 1, 0, 1, 1, 0);
    x.tick(3);
    int[] due = {3, 2, 0, 2};
    for (int what = 0; what < 4; what++) due("pair(0, 1, " + what + ")", x.pair(0, 1, what), due[what]);
    int[] none = {0, 0, 0, -1};
    for (int what = 0; what < 4; what++) {
      due("pair(4, 4, " + what + ")", x.pair(4, 4, what), none[what]);
      due("pair(0, 2, " + what + ")", x.pair(0, 2, what), none[what]);
    }
    due("pair(1, 0, 3)", x.pair(1, 0, 3), 1);
    for (int[] b : new int[][] {{-1, 0, 0}, {0, -1, 0}, {9, 0, 0}, {0, 9, 0}, {0, 1, 4}, {0, 1, -1}, {4, 4, 4}}) {
      due("pair of none", x.pair(b[0], b[1], b[2]), -1);
    }
  }

  private static void late() {
    BubbleTorus x = sent(of(3, 3, 2, 0, 0, 8), 0, 1, 0, 1, 0, 1, 3, 4);
    x.tick(3);                                        // LATE are 1 and 2 and 1; one is still on its way
    due("late(0, 9)", x.late(0, 9), 3);
    due("late(1, 1)", x.late(1, 1), 2);
    due("late(2, 2)", x.late(2, 2), 1);
    due("late(3, 9)", x.late(3, 9), 0);
    due("late(2, 1)", x.late(2, 1), 0);
    due("late of all", x.late(Integer.MIN_VALUE, Integer.MAX_VALUE), 3);
    promise = 24;
    due("lates(-1, 0)", x.lates(-1, 0), 2);
    due("lates(0, 0)", x.lates(0, 0), 1);
    due("lates(0, 1)", x.lates(0, 1), 2);
    due("lates(1, 0)", x.lates(1, 0), 2);
    due("lates(1, 1)", x.lates(1, 1), 1);
    due("lates(2, 0)", x.lates(2, 0), -1);
    due("lates(-2, 0)", x.lates(-2, 0), -1);
    due("lates(0, 2)", x.lates(0, 2), -1);
    due("lates(0, -1)", x.lates(0, -1), -1);
    x.tick(1);
    due("lates(-1, 1)", x.lates(-1, 1), 3);
    due("lates(2, 0)", x.lates(2, 0), 3);
  }

  private static void goesOn() {
    // 1 to 0 can't enter the ring, as the place is CRITICAL; 5 to 4 can
    BubbleTorus x = sent(of(3, 3, 1, 0, 2, 0), 2, 0, 2, 1, 3, 4);
    due("goesOn(0)", x.goesOn(0), 0);
    due("goesOn(1)", x.goesOn(1), -1);
    due("goesOn(2)", x.goesOn(2), 1);
    due("goesOn(3)", x.goesOn(3), -1);
    due("goesOn(-1)", x.goesOn(-1), -1);
    promise = 26;
    due("stuck", x.stuck(), 2);
    promise = 27;
    due("dead", x.dead(), 0);
    x.tick(1);
    promise = 25;
    due("in its TO", x.goesOn(2), 1);
    x.tick(5);
    due("delivered", x.goesOn(2), -1);
    promise = 26;
    due("stuck", x.stuck(), 2);
    promise = 27;
    due("dead", x.dead(), 1);
    due("nothing is left", of(3, 3, 1, 0, 2, 0).dead(), 0);
    promise = 25;
    // 1 came into node 1 and waits there for direction 2; what is behind the place that it holds can go on
    x = sent(of(3, 3, 1, 0, 0, 0), 1, 4, 0, 4, 0, 4);
    x.tick(1);
    x.send(1, 4);
    due("the place is taken", x.queue(1, 1, 0, 0), 1);
    due("behind it", x.goesOn(2), 1);
    due("the one that has it", x.goesOn(1), 1);
    circle();
  }
  /** Four nodes in a row, each with a packet for two on: E 1, RULE 0, all enter and none can go on. */
  private static void circle() {
    BubbleTorus x = sent(of(4, 2, 1, 0, 0, 0), 0, 2, 1, 3, 2, 0, 3, 1, 4, 5);
    promise = 27;
    due("ahead of it", x.dead(), 0);
    x.tick(1);
    promise = 25;
    for (int p = 0; p < 4; p++) due("goesOn(" + p + ")", x.goesOn(p), 0);
    due("goesOn(4)", x.goesOn(4), 1);
    promise = 26;
    due("stuck", x.stuck(), 4);
    promise = 27;
    due("one may still be delivered", x.dead(), 0);
    x.tick(1);
    due("dead", x.dead(), 1);
    x.send(0, 1);
    x.send(0, 4);
    promise = 26;
    due("stuck, what is behind too", x.stuck(), 6);
    promise = 28;
    due("through", x.through(), -1);
    promise = 29;
    due("arrives(5, 1)", x.arrives(5, 1), 2);
    due("arrives(0, 4)", x.arrives(0, 4), -1);
  }

  private static void through() {
    BubbleTorus x = of(3, 3, 2, 0, 0, 8);
    due("nothing", x.through(), 0);
    sent(x, 0, 1, 0, 1, 0, 1);
    due("one a tick by the link", x.through(), 4);
    due("in thought alone", x.look(6), 0);
    due("in thought alone", x.node(0, 0), 3);
    due("in thought alone", x.link(0, 0), 0);
    x.tick(2);
    due("two less", x.through(), 2);
    x.tick(2);
    due("all are", x.through(), 0);
    due("delivered", x.look(8), 3);
    due("another shape", sent(of(2, 2, 2, 0, 0, 8), 0, 3).through(), 3);
    x.torus(4, 2, 2, 0, 0, 8);
    due("another shape behind a thought", sent(x, 0, 6).through(), 4);
    x.torus(2, 4, 2, 0, 0, 8);
    due("and turned round", sent(x, 0, 5).through(), 4);
    // a MARK that rested with BOUND 0, though its OWNER is not hungry any more, bars node 1 yet
    x = hungryRing(2);
    x.tick(4);
    x.bound(0);
    x.tick(10);
    due("all are delivered", x.look(8), 7);
    due("BARRED", x.ring(0, 8), 2);
    sent(x, 1, 2);
    due("BARRED for good", x.through(), -1);
    x.bound(5);
    due("the MARK ends in an idle TICK", x.through(), 3);
    due("arrives behind it", x.arrives(1, 2), 4);
  }

  private static void arrives() {
    BubbleTorus x = of(3, 3, 2, 0, 0, 8);
    due("arrives(0, 1)", x.arrives(0, 1), 2);
    due("arrives(0, 4)", x.arrives(0, 4), 3);
    due("not sent", x.look(7), 0);
    due("not sent", x.node(0, 0), 0);
    sent(x, 0, 1, 0, 1, 0, 1);
    due("behind three others", x.arrives(0, 1), 5);
    due("alone counts", x.arrives(4, 5), 2);
    for (int[] b : new int[][] {{-1, 0}, {0, -1}, {9, 0}, {0, 9}, {3, 3}}) due("arrives that can't be", x.arrives(b[0], b[1]), -1);
    sent(x, 0, 1, 0, 1, 0, 1);
    due("a full door", x.arrives(0, 1), -1);
  }

  private static void enters() {
    BubbleTorus x = hungryRing(2);
    due("enters(0, 0)", x.enters(0, 0), 1);
    x.tick(1);
    due("RULE 1 needs two", x.enters(0, 0), 0);
    x.tick(3);
    due("enters(1, 0), BARRED", x.enters(1, 0), 0);
    due("enters(2, 0), not yet BARRED", x.enters(2, 0), 1);
    x.tick(1);
    due("enters(2, 0), BARRED", x.enters(2, 0), 0);
    due("enters(1, 1), of another ring", x.enters(1, 1), 1);
    x = sent(of(3, 3, 2, 0, 0, 0), 1, 4, 0, 4);
    x.tick(1);
    due("RULE 0 needs one", x.enters(0, 0), 1);
    x = of(3, 3, 1, 0, 2, 0);
    due("CRITICAL is there", x.enters(2, 0), 0);
    due("CRITICAL is not there", x.enters(0, 0), 1);
    x = of(3, 3, 2, 0, 2, 0);
    due("one beside CRITICAL", x.enters(2, 0), 1);
    for (int[] b : new int[][] {{-1, 0}, {9, 0}, {0, -1}, {0, 4}}) due("enters of none", x.enters(b[0], b[1]), -1);
  }

  private static void schedules(BubbleTorus x, int... due) {
    for (int what = 0; what < 5; what++) due("schedules(" + what + ")", x.schedules(what), due[what]);
  }
  private static void schedules() {
    // each alone in 3 states (door, escape, delivered), by 2 steps: 3 * 3 states, 6 rows
    BubbleTorus x = sent(of(3, 3, 2, 0, 0, 0), 0, 1, 3, 4);
    schedules(x, 9, 0, 6, 2, 5);
    due("schedules(-1)", x.schedules(-1), -1);
    due("schedules(5)", x.schedules(5), -1);
    due("it is as it was", x.queue(0, 0, 0, 0), 0);
    due("it is as it was", x.look(6), 0);
    // with adaptive lanes each has 4 states and 2 ways: 16 states, 24 rows
    schedules(sent(of(3, 3, 2, 1, 0, 0), 0, 1, 3, 4), 16, 0, 24, 2, 5);
    // both by one link: the second one follows, behind it or after it is delivered
    // (DD, ED, EE, -D, -E, --): D door, E escape; rows: EE on the way or not
    schedules(sent(of(3, 3, 2, 0, 0, 0), 0, 1, 0, 1), 6, 0, 2, 2, 4);
    // with RULE 1 the second one waits until the first one is delivered
    schedules(sent(of(3, 3, 2, 0, 1, 0), 0, 1, 0, 1), 5, 0, 1, 1, 5);
    // CRITICAL belongs to the states: from 2 to 0 it moves, and stays moved
    x = sent(of(4, 2, 1, 0, 2, 0), 2, 0);
    schedules(x, 4, 0, 1, 1, 2);                      // the rings of two nodes have two places
    due("CRITICAL is as it was", x.ring(0, 5), 0);
    // 1 may enter 0 only when 0 has gone through it and so taken CRITICAL to 3
    schedules(sent(of(4, 2, 1, 0, 2, 0), 2, 0, 3, 0), 6, 0, 1, 1, 2);
    // with adaptive lanes 2 to 0 goes by 3 (two lanes) or by 1 (adaptive alone), and ends with CRITICAL in 3, if it
    // went by escape all the way, else in 0: door, 3 ways into the next node, 3 into 0, two ends
    schedules(sent(of(4, 2, 1, 1, 2, 0), 2, 0), 9, 0, 4, 1, 2);
    // 0 to 4 by 1, and 1 to 4: 4 and 3 places, and both orders in the queue of 4; of 10 rows 7 keep the order
    schedules(sent(of(3, 3, 2, 0, 0, 0), 0, 4, 1, 4), 13, 0, 7, 2, 4);
    // 0 goes through 1 to 2, and 1 through 0 to 1: 4 by 4 places and both orders in 1; of 20 rows 4 break the order
    schedules(sent(of(4, 2, 2, 0, 0, 0), 0, 2, 3, 1), 17, 0, 16, 2, 4);
    // neither can enter: the one place is CRITICAL
    schedules(sent(of(3, 3, 1, 0, 2, 0), 2, 0, 2, 0), 1, 1, 0, 0, 3);
    x = sent(of(3, 3, 2, 0, 0, 0), 0, 1, 3, 4, 6, 7);
    due("three", x.schedules(2), 90);                 // 6! / 2! 2! 2!
    x.send(1, 2);
    due("four", x.schedules(0), -1);
    x.tick(2);
    schedules(x, 1, 0, 1, 0, 6);
    due("more than 400 states", sent(of(4, 4, 4, 3, 0, 0), 0, 10, 1, 11, 2, 8).schedules(0), -1);
    // 400 and 401 as PlainModel counts them, too
    schedules(sent(of(2, 4, 1, 3, 0, 0), 4, 6, 3, 6, 0, 2), 400, 0, 54432, 3, 1);
    x = sent(of(3, 2, 1, 1, 0, 0), 0, 5, 0, 3, 0, 4);
    for (int what = 0; what < 5; what++) due("401 states", x.schedules(what), -1);
    barredInSchedules();
  }
  private static void barredInSchedules() {
    // 1 to 0 is hungry for good, as the place is CRITICAL; its MARK has BARRED node 0, so 0 to 1 waits
    BubbleTorus x = sent(of(2, 2, 1, 0, 2, 1), 1, 0);
    x.tick(2);
    sent(x, 0, 1);
    due("tick(1)", x.tick(1), 0);
    due("nothing goes", x.move(-1, 0), 0);
    due("enters(0, 0)", x.enters(0, 0), 0);
    due("goesOn, were nobody BARRED", x.goesOn(1), 1);
    schedules(x, 3, 1, 0, 1, 1);
    due("BARRED is as it was", x.ring(0, 8), 1);
    due("through", x.through(), -1);
  }

  private static void alone() {
    int[][] due = {
      {2, 1, 0, 4, 1, 0, -1, 2, 2, 1, 2},
      {2, 2, 0, 9, 1, 0, -1, 4, 3, 1, 3},             // (E + 1) states a queue; both full, then three leave
      {2, 2, 1, 4, 0, 0, -1, 2, 2, 1, 2},             // one packet at most in each
      {2, 2, 2, 6, 0, 0, -1, 3, 3, 1, 3},             // one at most in that of CRITICAL
      {2, 3, 0, 16, 1, 0, -1, 6, 4, 1, 4},
      {2, 3, 1, 9, 0, 0, -1, 4, 3, 1, 3},
      {2, 3, 2, 12, 0, 0, -1, 5, 4, 1, 4},
      {3, 1, 0, 27, 8, 1, 3, 3, 18, 1, 4},
      {3, 2, 0, 343, 64, 8, 6, 6, 196, 1, 7},         // 7 states a queue; dead: all first ones with 1 to go
      {4, 1, 0, 256, 81, 16, 4, 4, 192, 1, 7},        // dead: 1 or 2 to go in all four
      {4, 1, 1, 1, 0, 0, -1, 0, 1, 0, 0},
    };
    BubbleTorus x = new BubbleTorus();
    for (int[] d : due) for (int what = 0; what < 8; what++) {
      due("alone(" + d[0] + ", " + d[1] + ", " + d[2] + ", " + what + ")", x.alone(d[0], d[1], d[2], what), d[what + 3]);
    }
    int[][] bad = {{1, 1, 0, 0}, {5, 1, 0, 0}, {4, 2, 0, 0}, {3, 4, 0, 0}, {3, 0, 0, 0}, {2, 1, -1, 0}, {2, 1, 3, 0},
        {2, 1, 0, -1}, {2, 1, 0, 8}, {4, 0, 0, 0}, {0, 0, 0, 0}, {-1, 1, 0, 0}};
    for (int[] b : bad) due("alone that can't be", x.alone(b[0], b[1], b[2], b[3]), -1);
    for (int n = 2; n <= 3; n++) for (int e = 1; e <= 3; e++) for (int rule = 1; rule <= 2; rule++) {
      due("rules keep it alive", x.alone(n, e, rule, 2), 0);
      due("rules keep a place", x.alone(n, e, rule, 1), 0);
    }
  }

  private static void look() {
    BubbleTorus x = hungryRing(0);
    x.tick(6);                                        // 0 to 4 are delivered as TICK is 1 to 5; 5 is in node 1
    int[] due = {3, 3, 2, 0, 1, 0, 6, 7, 5, 1, 1, 0, 1 + 2 + 3 + 4 + 5, 7, 0, 0, 0, 0, 0, 0};
    for (int what = 0; what < 20; what++) due("look(" + what + ")", x.look(what), due[what]);
    due("look(20)", x.look(20), -10);
    due("look(-1)", x.look(-1), -10);
    due("look(least)", x.look(Integer.MIN_VALUE), -10);
    x = sent(of(3, 3, 2, 1, 0, 0), 0, 5, 0, 5);
    x.tick(1);
    due("in adaptive ones", x.look(11), 2);
    due("by adaptive", x.look(14), 2);
    due("hops", x.look(13), 2);
    x.tick(2);
    due("late of all", x.look(12), 4);
    due("hops", x.look(13), 4);
    due("out of order", x.look(18), 1);
  }
}

import java.util.ArrayList;
import java.util.List;

/**
 * Programs that are broken on purpose, each with the names of the tests (BoundariesTest) that must find it.
 * An edit goes to a place of the text that is there once, and changes the first text of its kind from there on.
 */
final class Mutants {
  static final List<Mutant> ALL = new ArrayList<>();

  private Mutants() { }

  static final class Mutant {
    final List<String> names;
    private final List<String[]> edits = new ArrayList<>();

    Mutant(List<String> names) { this.names = names; }

    Mutant by(String place, String old, String next) {
      edits.add(new String[] {place, old, next});
      return this;
    }

    String applied(String source) {
      String text = source;
      for (String[] e : edits) text = edited(text, e[0], e[1], e[2]);
      return text;
    }

    private static String edited(String text, String place, String old, String next) {
      int at = text.indexOf(place);
      if (at < 0) throw new IllegalArgumentException("nowhere: " + place);
      if (text.indexOf(place, at + 1) >= 0) throw new IllegalArgumentException("more than once: " + place);
      int from = text.indexOf(old, at);
      if (from < 0) throw new IllegalArgumentException("not behind " + place + ": " + old);
      return text.substring(0, from) + next + text.substring(from + old.length());
    }

    @Override public String toString() {
      StringBuilder said = new StringBuilder();
      for (String[] e : edits) said.append("\n  ").append(e[0]).append("\n    - ").append(e[1]).append("\n    + ").append(e[2]);
      return said.toString();
    }
  }

  private static Mutant breaks(String... names) {
    Mutant m = new Mutant(List.of(names));
    ALL.add(m);
    return m;
  }

  static {
    newObject();
    torus();
    send();
    shower();
    pattern();
    tick();
    lanesAndRules();
    stateAndBound();
    packet();
    queue();
    shape();
    ring();
    hunger();
    marks();
    node();
    movesAndLinks();
    pairs();
    lates();
    goesOn();
    thoughts();
    enters();
    schedules();
    alone();
    look();
  }

  private static void newObject() {
    breaks("1: W is 3 at first").by("int columns = 3", "3", "4");
    breaks("1: H is 3 at first").by("int rows = 3", "3", "4");
    String begun = "net.begin(2, 1, RULE_TWO_PLACES, 8)";
    breaks("1: E is 2 at first").by(begun, "(2, 1", "(3, 1");
    breaks("1: A is 1 at first").by(begun, "(2, 1", "(2, 2");
    breaks("1: RULE is 1 at first").by(begun, "RULE_TWO_PLACES", "RULE_CRITICAL");
    breaks("1: BOUND is 8 at first", "1: a new object is a TORUS as it is at first").by(begun, "8", "9");
    breaks("1: TICK is 0 at first").by("void begin(", "clock = 0", "clock = 1");
    breaks("1: STATE is 0 at first").by("private int drawState = 0", "0", "1");
    breaks("1: a new object has no PACKETS").by("private static final class Packets", "void clearAll() {\n            count = 0", "void clearAll() {\n            count = 1");
    breaks("1: NONE is -1").by("public static final int NONE = -1", "-1", "-2");
  }

  private static void torus() {
    String torus = "public boolean torus(";
    breaks("2: W 1 is too small").by(torus, "within(w, 2, 4)", "within(w, 1, 4)");
    breaks("2: W 5 is too large").by(torus, "within(w, 2, 4)", "within(w, 2, 5)");
    breaks("2: W 2 can be", "2: the least TORUS").by(torus, "within(w, 2, 4)", "within(w, 3, 4)");
    breaks("2: W 4 can be", "2: the greatest TORUS").by(torus, "within(w, 2, 4)", "within(w, 2, 3)");
    breaks("2: H 1 is too small").by(torus, "within(h, 2, 4)", "within(h, 1, 4)");
    breaks("2: H 5 is too large").by(torus, "within(h, 2, 4)", "within(h, 2, 5)");
    breaks("2: H 2 can be", "2: the least TORUS").by(torus, "within(h, 2, 4)", "within(h, 3, 4)");
    breaks("2: H 4 can be", "2: the greatest TORUS").by(torus, "within(h, 2, 4)", "within(h, 2, 3)");
    breaks("2: E 0 is too small").by(torus, "within(e, 1, 4)", "within(e, 0, 4)");
    breaks("2: E 5 is too large").by(torus, "within(e, 1, 4)", "within(e, 1, 5)");
    breaks("2: E 1 can be with RULE 0", "2: E 1 can be with RULE 2", "2: the least TORUS").by(torus, "within(e, 1, 4)", "within(e, 2, 4)");
    breaks("2: E 1 can be with RULE 2").by(torus, "rule == RULE_TWO_PLACES", "rule != 0");
    breaks("2: E 1 can't be with RULE 1").by(torus, " || (rule == RULE_TWO_PLACES && e < 2)", "");
    breaks("2: E 2 can be with RULE 1").by(torus, "e < 2", "e <= 2");
    breaks("2: E 4 can be", "2: the greatest TORUS").by(torus, "within(e, 1, 4)", "within(e, 1, 3)");
    breaks("2: A -1 is too small").by(torus, "within(a, 0, 3)", "within(a, -1, 3)");
    breaks("2: A 4 is too large").by(torus, "within(a, 0, 3)", "within(a, 0, 4)");
    breaks("2: A 0 can be", "2: the least TORUS").by(torus, "within(a, 0, 3)", "within(a, 1, 3)");
    breaks("2: A 3 can be", "2: the greatest TORUS").by(torus, "within(a, 0, 3)", "within(a, 0, 2)");
    breaks("2: RULE -1 can't be").by(torus, "within(rule, 0, 2)", "within(rule, -1, 2)");
    breaks("2: RULE 3 can't be").by(torus, "within(rule, 0, 2)", "within(rule, 0, 3)");
    breaks("2: RULES 0, 1 and 2 can be").by(torus, "within(rule, 0, 2)", "within(rule, 0, 1)");
    breaks("2: RULES 0, 1 and 2 can be", "2: the least TORUS").by(torus, "within(rule, 0, 2)", "within(rule, 1, 2)");
    String bound = "private static boolean isBound(";
    breaks("2: BOUND -1 is too small", "8: BOUND -1 can't be").by(bound, "within(v, 0, 99)", "within(v, -1, 99)");
    breaks("2: BOUND 100 is too large", "8: BOUND 100 can't be").by(bound, "within(v, 0, 99)", "within(v, 0, 100)");
    breaks("2: BOUND 0, 1 and 99 can be", "8: BOUND 0 can be", "2: the least TORUS").by(bound, "within(v, 0, 99)", "within(v, 1, 99)");
    breaks("2: BOUND 0, 1 and 99 can be", "8: BOUND 1 can be").by(bound, "within(v, 0, 99)", "v != 1 && within(v, 0, 99)");
    breaks("2: BOUND 0, 1 and 99 can be", "8: BOUND 99 can be", "2: the greatest TORUS").by(bound, "within(v, 0, 99)", "within(v, 0, 98)");
    breaks("2: a refused TORUS changes nothing").by(torus, "if (!within(w", "grid.lay(w, h);\n if (!within(w");
    breaks("2: a refused TORUS changes nothing").by(torus, "if (!within(w", "net.moves.count = 0;\n if (!within(w");
    breaks("2: all is as at first behind a TORUS", "2: no MOVES behind a TORUS").by("void begin(", "moves.count = 0;", "");
    breaks("2: all is as at first behind a TORUS").by("void begin(", "Arrays.fill(links, 0);", "");
    breaks("2: all is as at first behind a TORUS").by("void begin(", "lost = 0;", "");
    breaks("2: all is as at first behind a TORUS").by("void begin(", "queues.clearAll();", "");
    breaks("2: all is as at first behind a TORUS").by("void clearAll(Grid", "Arrays.fill(hungers, 0);", "");
    breaks("2: all is as at first behind a TORUS").by("void clearAll(Grid", "Arrays.fill(barred, 0);", "");
    for (String row : new String[] {"hops[p] = 0;", "entered[p] = 0;", "disorder[p] = 0;"}) {
      breaks("2: what is SENT behind a TORUS is as the first ones").by("int add(int source", row, "");
    }
    breaks("2: nothing stays of packets that came late or OUT OF ORDER").by("int longestAtDoor(", "p < count", "p <= count");
    breaks("2: nothing stays of packets that came late or OUT OF ORDER").by("int disorderTogether(", "p < count", "p <= count");
    breaks("2: STATE stays").by(torus, "net.begin(", "drawState = 0;\n net.begin(");
    breaks("2: a lesser TORUS has no NODES and RINGS of the greater one").by("boolean hasNode(", "v < nodes", "v < MOST_NODES");
    breaks("2: a lesser TORUS has no NODES and RINGS of the greater one").by("void lay(", "rings = 2 * (w + h)", "rings = Math.max(rings, 2 * (w + h))");
    breaks("2: a greater TORUS has more NODES and RINGS").by("void lay(", "nodes = w * h", "nodes = Math.min(nodes, w * h)");
    breaks("2: a greater TORUS has more NODES and RINGS").by("void lay(", "rings = 2 * (w + h)", "rings = Math.min(rings, 2 * (w + h))");
    breaks("2: numbers begin with 0 anew").by("private static final class Packets", "void clearAll() {\n            count = 0;", "void clearAll() {");
    breaks("2: CRITICAL is at the least NODE of its RING at first").by("void clearAll(Grid", "grid.ringNode(r, 0)", "grid.ringNode(r, 1)");
  }

  private static void send() {
    breaks("3: numbers are from 0 on").by("int add(int source", "int p = count;", "int p = count + 1;");
    String places = "int DOOR_PLACES = 6";
    breaks("3: a DOOR has six places", "18: a full DOOR has six").by(places, "6", "5");
    breaks("3: a full DOOR takes no seventh", "18: a full DOOR has six", "29: NONE from a full DOOR").by(places, "6", "7");
    String admit = "int admit(int from";
    breaks("3: what is refused takes no number").by(admit, "int door = from * QUEUES;", "int door = from * QUEUES;\n if (queues.sizes[door] >= DOOR_PLACES) { packets.add(from, to, clock); }");
    breaks("3: a DOOR that one left has a place again").by(admit, "queues.sizes[door] >= DOOR_PLACES", "packets.sentFrom(from) >= DOOR_PLACES");
    breaks("3: the 250th is SENT").by("int MOST_PACKETS = 250", "250", "249");
    breaks("3: the 251st is not SENT", "29: NONE as the 251st").by("int MOST_PACKETS = 250", "250", "251");
    breaks("3: DELIVERED ones count among the 250").by(admit, "packets.count >= MOST_PACKETS", "packets.left() >= MOST_PACKETS");
    breaks("3: FROM -1 can't be", "29: NONE if NODES can't be").by(admit, "!grid.hasNode(from)", "from >= grid.nodes");
    breaks("3: FROM of as many as there are can't be").by(admit, "!grid.hasNode(from)", "from < 0");
    breaks("3: TO -1 can't be").by(admit, "!grid.hasNode(to)", "to >= grid.nodes");
    breaks("3: TO of as many as there are can't be").by(admit, "!grid.hasNode(to)", "to < 0");
    breaks("3: TO is another NODE").by(admit, " || from == to", "");
    breaks("3: the last NODE can be FROM and TO").by("boolean hasNode(", "v < nodes", "v < nodes - 1");
    breaks("3: a refused one changes nothing", "3: what send can't send is not lost").by(admit, "return NONE;", "lost++;\n return NONE;");
    breaks("3: what send can't send is not lost").by("public int send(", "return net.admit(from, to);", "return net.admitOrLose(from, to) == 1 ? net.packets.count - 1 : NONE;");
    breaks("3: BORN is the TICK as it was SENT").by(admit, "packets.add(from, to, clock)", "packets.add(from, to, clock % 100)");
    breaks("3: it comes behind the others in the DOOR", "10: first in, first out").by("void put(int q, int packet)", "sizes[q]++;",
        "sizes[q]++; if (sizes[q] == 2) { items[q * DOOR_PLACES + 1] = items[q * DOOR_PLACES]; items[q * DOOR_PLACES] = packet; }");
  }

  private static void shower() {
    String shower = "public int shower(";
    breaks("4: n 0 can't be").by(shower, "within(n, 1, 60)", "within(n, 0, 60)");
    breaks("4: n 61 can't be").by(shower, "within(n, 1, 60)", "within(n, 1, 61)");
    breaks("4: n 1 can be").by(shower, "within(n, 1, 60)", "within(n, 2, 60)");
    breaks("4: n 60 can be").by(shower, "within(n, 1, 60)", "within(n, 1, 59)");
    breaks("4: no DRAW if n can't be").by(shower, "if (!within(n, 1, 60)) {", "draw(2);\n if (!within(n, 1, 60)) {");
    breaks("4: the other one, less than the NODE, stays").by(shower, "if (to >= from)", "if (to >= 0)");
    breaks("4: the other one, as the NODE, is one more", "4: NODE 0 to NODE 1 is the least there is").by(shower, "if (to >= from)", "if (to > from)");
    breaks("4: the other one, more than the NODE, is one more", "4: NODE 0 to the last one is the most there is").by(shower, "if (to >= from)", "if (to == from)");
    breaks("4: the last NODE to the one ahead of it").by(shower, "to++;", "to++;\n } else if (from == grid.nodes - 1) {\n to = (to + 1) % from;");
    breaks("4: NODE 0 to the last one is the most there is").by(shower, "draw(grid.nodes - 1)", "draw(grid.nodes - 2)");
    breaks("4: a DRAW of 4 and of 3").by(shower, "draw(grid.nodes - 1)", "draw(Math.max(5, grid.nodes - 1))");
    breaks("4: a DRAW of 16 and of 15").by(shower, "draw(grid.nodes)", "draw(Math.min(9, grid.nodes))");
    String draw = "private int draw(";
    breaks("4: STATE wraps", "4: STATE wraps from the least int").by(draw, "drawState = drawState * 1664525 + 1013904223", "drawState = (int) Math.min(Integer.MAX_VALUE, Math.max(Integer.MIN_VALUE, drawState * 1664525L + 1013904223))");
    breaks("4: STATE -1", "4: STATE wraps from the least int").by(draw, "drawState * 1664525", "Math.max(drawState, 0) * 1664525");
    breaks("4: the highest 24 bits have no sign").by(draw, ">>> 8", ">> 8");
    breaks("4: what a full DOOR refuses is lost, but drawn").by(shower, "int to = draw(", "if (net.queues.sizes[from * QUEUES] >= DOOR_PLACES) { net.lost++; continue; }\n int to = draw(");
    breaks("4: what a full DOOR refuses is lost, but drawn").by("int admitOrLose(", "lost++;", "");
    breaks("4: what comes behind the 250 is lost", "5: what comes behind the 250 is lost").by("int admitOrLose(", "lost++;", "if (packets.count < MOST_PACKETS) { lost++; }");
    breaks("4: a SHOWER says how many were SENT, not drawn").by(shower, "sent += net.admitOrLose(from, to);", "net.admitOrLose(from, to);\n sent++;");
  }

  private static void pattern() {
    String pattern = "public int pattern(";
    breaks("5: kind -1 can't be").by(pattern, "within(kind, 0, 4)", "within(kind, -1, 4)");
    breaks("5: kind 5 can't be").by(pattern, "within(kind, 0, 4)", "within(kind, 0, 5)");
    breaks("5: kind 4 to NODE -1 can't be").by(pattern, "!grid.hasNode(node)", "node >= grid.nodes");
    breaks("5: kind 4 to as many as there are can't be").by(pattern, "!grid.hasNode(node)", "node < 0");
    breaks("5: kind 4 to the first NODE can be").by(pattern, "!grid.hasNode(node)", "(node == 0 || !grid.hasNode(node))");
    breaks("5: kind 4 to the last NODE can be").by(pattern, "!grid.hasNode(node)", "!grid.hasNode(node + 1)");
    breaks("5: node is of kind 4 alone").by(pattern, "(kind == 4 && !grid.hasNode(node))", "!grid.hasNode(node)");
    breaks("5: a refused one changes nothing").by(pattern, "return NONE;", "net.lost++;\n return NONE;");
    String aim = "int aimOf(";
    breaks("5: half of three columns is one (downwards)").by(aim, "columns / 2", "(columns + 1) / 2");
    breaks("5: half of three rows is one (downwards)").by(aim, "rows / 2", "(rows + 1) / 2");
    breaks("5: half of four is two, round", "5: half of two is one").by(aim, "(column + columns / 2) % columns", "Math.min(column + columns / 2, columns - 1)");
    breaks("5: half of four is two, round", "5: half of two is one").by(aim, "(row + rows / 2) % rows", "Math.min(row + rows / 2, rows - 1)");
    breaks("5: half of four is two, round").by(aim, "columns / 2", "1");
    breaks("5: the other end, and the middle one nothing", "5: the other end of an even number").by(aim, "nodes - 1 - v", "(nodes - v) % nodes");
    breaks("5: columns and rows changed, round by W").by(aim, "row % columns", "Math.min(row, columns - 1)");
    breaks("5: columns and rows changed, round by H").by(aim, "column % rows", "Math.min(column, rows - 1)");
    breaks("5: the next one is round at the end of a row").by(aim, "nextBy(v, 0)", "(v + 1) % nodes");
    breaks("5: to itself is nothing, and not lost").by(pattern, "if (to != v)", "if (to >= 0)");
    breaks("5: what a full DOOR refuses is lost").by("int admitOrLose(", "lost++;", "");
    breaks("5: each NODE in turn").by(pattern, "for (int v = 0; v < grid.nodes; v++) {", "for (int v = grid.nodes - 1; v >= 0; v--) {");
  }

  private static void tick() {
    String tick = "public int tick(";
    breaks("6: n 0 can't be").by(tick, "within(n, 1, 100)", "within(n, 0, 100)");
    breaks("6: n 101 can't be").by(tick, "within(n, 1, 100)", "within(n, 1, 101)");
    breaks("6: n 1 can be").by(tick, "within(n, 1, 100)", "within(n, 2, 100)");
    breaks("6: n 100 can be").by(tick, "within(n, 1, 100)", "within(n, 1, 99)");
    breaks("6: a refused one changes nothing").by(tick, "return NONE;", "net.moves.count = 0;\n return NONE;");
    breaks("6: those of all n TICKS are counted").by(tick, "delivered += net.runTick()", "delivered = net.runTick()");
    String deliver = "private int deliverFirsts(";
    breaks("6: of a queue only the first one is DELIVERED in a TICK").by(deliver, "done++;", "done++;\n k--;");
    breaks("6: one that is not first is not DELIVERED though it is in its TO").by(deliver, "int p = queues.first(v * QUEUES + k);",
        "int q = v * QUEUES + k;\n if (queues.sizes[q] == 2 && packets.to[queues.itemAt(q, 1)] == v) {\n"
        + "int t = queues.itemAt(q, 0);\n queues.items[q * DOOR_PLACES] = queues.itemAt(q, 1);\n queues.items[q * DOOR_PLACES + 1] = t;\n }\n"
        + "int p = queues.first(q);");
    String run = "int runTick(";
    breaks("6: what arrives in a TICK is DELIVERED in the next one").by(run, "feelHunger();", "done += deliverFirsts();\n feelHunger();");
    String begin = "(clock % grid.nodes + i) % grid.nodes";
    breaks("6: the first NODE is TICK modulo NODES").by(run, begin, "i");
    breaks("6: behind the last NODE comes NODE 0").by(run, begin, "Math.min(clock % grid.nodes + i, grid.nodes - 1)");
    breaks("6: as TICK is NODES, NODE 0 is first again").by(run, begin, "(Math.min(clock, grid.nodes - 1) + i) % grid.nodes");
    breaks("6: the greatest TORUS, with MARKS in all its RINGS").by("private void turnMarks(", "r < grid.rings", "r <= grid.rings");
    breaks("6: TICK is one more by each").by(run, "clock++;", "clock += clock == 100 ? 2 : 1;");
    String chosen = "private int chosenQueue(";
    breaks("6: what went does not go again in its TICK").by(chosen, "packets.lastWent[p] == clock || ", "");
    breaks("6: by one DIRECTION one goes").by(run, "goFrom(v, k, d);", "goFrom(v, k, d);\n d--;");
    breaks("6: what is first then goes in the same TICK by another DIRECTION", "19: by all LINKS of a NODE one each", "19: by all LINKS there are")
        .by(run, "goFrom(v, k, d);", "goFrom(v, k, d);\n break;");
    breaks("6: a DIRECTION that was looked at does not come again in its TICK").by(run, "goFrom(v, k, d);", "goFrom(v, k, d);\n d = d == 2 ? -1 : d;");
    breaks("6: the eldest BORN goes", "6: of several BORN in one TICK the least number goes").by(chosen, "best == NONE || p < best", "best == NONE");
    breaks("6: of several BORN in one TICK the least number goes").by(chosen, "p < best", "packets.born[p] < packets.born[best]");
    breaks("6: what CONTINUES goes ahead of an elder one").by(chosen, "if (continues(v, k, d))", "if (k == NONE)");
    breaks("6: what can't go is not chosen, though it is the eldest").by(chosen, " || !canGo(v, k, d)", " || (!isProfitable(v, k, d) && !canGo(v, k, d))");
    breaks("6: MOVES of an idle TICK are none", "19: MOVES are of the latest TICK alone").by(run, "moves.count = 0;", "");
  }

  private static void lanesAndRules() {
    String ahead = "private int freeAhead(";
    breaks("6: an ESCAPE queue holds E, and no more").by(ahead, "escapePlaces - ", "escapePlaces + 1 - ");
    breaks("6: an ESCAPE queue holds E, and no more").by(ahead, "escapePlaces - ", "Math.max(1, escapePlaces - 1) - ");
    String adaptive = "boolean adaptiveLets(";
    breaks("6: an ADAPTIVE queue holds A, and no more", "6: with A 0 all go by ESCAPE").by(adaptive, "< adaptivePlaces", "<= adaptivePlaces");
    breaks("6: an ADAPTIVE queue holds A, and no more").by(adaptive, "< adaptivePlaces", "< Math.min(adaptivePlaces, 2)");
    breaks("6: by ADAPTIVE, if it can").by("private void goFrom(", "adaptiveLets(v, k, d) ? ADAPTIVE : ESCAPE", "escapeLets(v, k, d) && !isBarred(v, d) ? ESCAPE : ADAPTIVE");
    String escape = "boolean escapeLets(";
    breaks("6: by ESCAPE in the ESCAPE DIRECTION alone").by(escape, "if (!isEscape(v, k, d))", "if (!isProfitable(v, k, d))");
    breaks("6: by ADAPTIVE in a PROFITABLE DIRECTION alone").by(adaptive, "isProfitable(v, k, d)", "queues.first(v * QUEUES + k) != NONE");
    String lets = "boolean ruleLets(int v, int d)";
    breaks("6: RULE 0 needs one place", "6: RULE 2 needs one place where CRITICAL is not").by(lets, "(twoNeeded ? 2 : 1)", "2");
    breaks("6: RULE 0 needs one place").by(lets, "(twoNeeded ? 2 : 1)", "(twoNeeded ? 2 : 0)");
    breaks("6: RULE 1 needs two places", "6: RULE 2 needs two places where CRITICAL is").by(lets, "(twoNeeded ? 2 : 1)", "1");
    breaks("6: RULE 1 needs two places").by(lets, "(twoNeeded ? 2 : 1)", "(twoNeeded ? 3 : 1)");
    breaks("6: RULE 2 needs one place where CRITICAL is not").by(lets, "rule == RULE_TWO_PLACES", "rule != 0");
    breaks("6: RULE 2 needs two places where CRITICAL is").by(lets, "== grid.nextBy(v, d)", "== v");
    breaks("6: what CONTINUES needs one place with RULE 1").by(escape, "freeAhead(v, d) > 0", "freeAhead(v, d) > (rule == RULE_TWO_PLACES ? 1 : 0)");
    breaks("6: what CONTINUES needs one place").by(escape, "freeAhead(v, d) > 0", "freeAhead(v, d) >= 0");
    String go = "private boolean canGo(";
    breaks("6: what is BARRED does not ENTER").by(go, " || !isBarred(v, d)", " || v >= 0");
    breaks("6: what is BARRED goes by ADAPTIVE").by(go, "if (adaptiveLets(v, k, d))", "if (adaptiveLets(v, k, d) && !isBarred(v, d))");
    breaks("6: what is BARRED CONTINUES").by(go, "continues(v, k, d) || ", "");
    String shift = "void shift(int v";
    breaks("6: CRITICAL goes against what CONTINUES into its last place").by(shift, "rings.critical[r] = v;", "rings.critical[r] = grid.nextBy(to, d);");
    breaks("6: CRITICAL stays while another place is free there").by(shift, " && freeAhead(v, d) == 0", "");
    breaks("6: CRITICAL stays if the last place of another NODE is taken").by(shift, " && rings.critical[r] == to", "");
    breaks("6: CRITICAL stays as what took its place leaves").by("private int deliverFirsts(", "done++;",
        "done++;\n if (rule == RULE_CRITICAL && k < ADAPTIVES) { rings.critical[grid.ringIndex(v, k - ESCAPES)] = v; }");
    breaks("6: CRITICAL stays if the place is taken by ADAPTIVE").by(shift, "takesInRing && rule == RULE_CRITICAL && rings.critical[r] == to && freeAhead(v, d) == 0",
        "rule == RULE_CRITICAL && rings.critical[r] == to && (lane == ADAPTIVE || (takesInRing && freeAhead(v, d) == 0))");
    breaks("6: with RULE 0 there is no CRITICAL").by(lets, "rule == RULE_CRITICAL", "rule != RULE_TWO_PLACES");
    breaks("6: with RULE 0 there is no CRITICAL").by("case 5: return net.rule == RULE_CRITICAL", "net.rule == RULE_CRITICAL", "net.rule != RULE_TWO_PLACES");
  }

  private static void stateAndBound() {
    String state = "public int state(";
    breaks("7: it answers what STATE was").by(state, "return was;", "return v;");
    breaks("7: any int can be STATE").by(state, "drawState = v;", "drawState = Math.max(v, 0);");
    breaks("7: any int can be STATE", "7: STATE goes on from what was told").by(state, "drawState = v;", "");
    String bound = "public boolean bound(";
    breaks("8: a refused one changes nothing").by(bound, "return false;", "net.limit = 0;\n return false;");
    breaks("8: MARKS stay").by(bound, "net.limit = v;", "net.limit = v;\n for (int r = 0; r < grid.rings; r++) { net.rings.endMark(r); }");
    breaks("8: a MARK goes on though HUNGER is less than a new BOUND").by("private void turnMarks(", "rings.hungers[owner * DIRECTIONS + d] > 0", "rings.hungers[owner * DIRECTIONS + d] >= limit");
  }

  private static void packet() {
    String has = "boolean has(int p)";
    breaks("9: there is no PACKET -1", "21: no such PACKET", "25: no such PACKET").by(has, "p >= 0 && p < count", "p < count");
    breaks("9: there is no PACKET of as many as there are", "21: no such PACKET").by(has, "p < count", "p <= count");
    breaks("9: the last PACKET can be asked").by(has, "p < count", "p < count - 1");
    String fact = "int fact(int p, int what)";
    breaks("9: what -1 can't be").by(fact, "case 0:", "case -1: case 0:");
    breaks("9: what 11 can't be").by(fact, "default: return NONE;", "default: return what == 11 ? 0 : NONE;");
    String add = "int add(int source";
    breaks("9: in a DOOR it came by no DIRECTION").by(add, "cameBy[p] = NONE;", "cameBy[p] = 0;");
    breaks("9: not yet DELIVERED it has no TICK of that").by(add, "done[p] = NONE;", "done[p] = tick;");
    breaks("9: in a DOOR it has no TICK of having left that").by(add, "leftDoor[p] = NONE;", "leftDoor[p] = tick;");
    String hop = "void noteHop(";
    breaks("9: it can leave its DOOR in TICK 0").by(hop, "leftDoor[p] = tick;", "leftDoor[p] = tick == 0 ? NONE : tick;");
    breaks("9: the TICK in which it left its DOOR stays").by(hop, "if (lane[p] == IN_DOOR)", "if (p >= 0)");
    breaks("9: where it is, lane by lane").by(fact, "return lane[p]", "return lane[p] == ADAPTIVE ? ESCAPE : lane[p]");
    breaks("9: where it is, lane by lane").by(fact, "return lane[p]", "return Math.min(lane[p], ADAPTIVE)");
    breaks("9: DELIVERED it is in its TO, by its last DIRECTION").by("void noteDelivery(", "lane[p] = DELIVERED;", "lane[p] = DELIVERED;\n cameBy[p] = NONE;");
    breaks("9: it ENTERED as often as it came into a RING").by("private void goFrom(", "packets.entered[p]++;", "packets.entered[p] = 1;");
    breaks("9: by ADAPTIVE it ENTERED nothing").by("private void goFrom(", "adaptiveHops++;", "adaptiveHops++;\n packets.entered[p]++;");
    breaks("9: HOPS are 0 to FAR").by(hop, "hops[p]++;", "hops[p] = Math.min(hops[p] + 1, 3);");
    String later = "private boolean laterIsDelivered(";
    breaks("9: OUT OF ORDER is one that is DELIVERED behind a later one", "22: OUT OF ORDER of a pair", "33: OUT OF ORDER of all together").by(later, "i = p + 1;", "i = count;");
    breaks("18: OUT OF ORDER is not one whose pair has none later").by(later, "isBetween(i, from[p], to[p]) && ", "");
    breaks("22: OUT OF ORDER is of FROM and TO both").by("private boolean isBetween(", "from[p] == source && ", "");
    breaks("22: OUT OF ORDER is of FROM and TO both").by("private boolean isBetween(", " && to[p] == target", "");
    breaks("9: what is SENT later and DELIVERED later leaves both in order").by(later, "i = p + 1;", "i = 0;");
    breaks("9: what is still on its way is not OUT OF ORDER").by(fact, "return disorder[p]", "return isDelivered(p) ? disorder[p] : laterIsDelivered(p) || p > 0 ? 1 : 0");
  }

  private static void queue() {
    String queue = "public int queue(";
    breaks("10: i NONE is how many, 0 at first").by(queue, "return i == NONE ?", "return i == NONE && net.queues.sizes[q] > 0 ?");
    String item = "int itemAt(";
    breaks("10: i of as many as there are is none").by(item, "i < sizes[q]", "i <= sizes[q] && sizes[q] > 0");
    breaks("10: i -2 is none").by(queue, "return i == NONE ?", "return i < 0 ?");
    breaks("10: an empty queue has no first one").by(item, "i < sizes[q]", "i < Math.max(1, sizes[q])");
    breaks("10: a DOOR has d 0 alone").by(queue, "if (lane == IN_DOOR && d != 0)", "if (d < 0)");
    breaks("10: lane -1 is none").by(queue, "within(lane, IN_DOOR, ADAPTIVE)", "within(lane, -1, ADAPTIVE)");
    breaks("10: lane 3 is none").by(queue, "within(lane, IN_DOOR, ADAPTIVE)", "within(lane, IN_DOOR, 3)");
    breaks("10: d -1 is none").by(queue, "!isDirection(d)", "d >= DIRECTIONS");
    breaks("10: d 4 is none").by(queue, "!isDirection(d)", "d < 0");
    breaks("10: NODE -1 is none").by(queue, "!grid.hasNode(node)", "node >= grid.nodes");
    breaks("10: a NODE of as many as there are is none").by(queue, "!grid.hasNode(node)", "node < 0");
    breaks("10: with A 0 an ADAPTIVE queue has none").by(queue, "if (lane == IN_DOOR && d != 0)", "if ((lane == IN_DOOR && d != 0) || (lane == ADAPTIVE && net.adaptivePlaces == 0))");
    breaks("10: first in, first out").by("void dropFirst(", "items[start + i] = items[start + i + 1];", "");
    breaks("10: a queue is of what came by its DIRECTION").by("void shift(int v", "firstOfLane(lane) + d, p)", "firstOfLane(lane) + (d ^ 1), p)");
  }

  private static void shape() {
    String step = "private int step(";
    breaks("11: a column more is round").by(step, "(column + 1) % columns", "Math.min(column + 1, columns - 1)");
    breaks("11: a column less is round", "11: of two both ways are to the other one").by(step, "(column + columns - 1) % columns", "Math.max(column - 1, 0)");
    breaks("11: a row more is round").by(step, "(row + 1) % rows", "Math.min(row + 1, rows - 1)");
    breaks("11: a row less is round", "11: of two both ways are to the other one").by(step, "(row + rows - 1) % rows", "Math.max(row - 1, 0)");
    breaks("11: no such NODE").by("public int next(", "grid.hasNode(node) && ", "");
    breaks("11: no such DIRECTION").by("public int next(", " && isDirection(d)", "");
    String gap = "private static int gap(";
    breaks("12: FAR of a NODE from itself is 0").by(gap, "Math.abs(a - b)", "Math.max(1, Math.abs(a - b))");
    breaks("12: FAR is round", "13: round is PROFITABLE if it is nearer").by(gap, "Math.min(apart, size - apart)", "apart");
    breaks("12: FAR is 4 at most").by("int distance(int v", "return gap(v % columns, to % columns, columns) +", "return v >= 0 && gap(v % columns, to % columns, columns) > 1 ? 2 :");
    breaks("12: no such NODE").by("public int far(", "grid.hasNode(node) && ", "");
    breaks("12: no such NODE").by("public int far(", " && grid.hasNode(to)", "");
    String nearer = "private int directionsNearer(";
    breaks("13: nothing is PROFITABLE in its TO").by(nearer, "int set = 0;", "int set = v == to ? 1 : 0;");
    breaks("13: both ways are PROFITABLE if they are as long").by(nearer, "set |= 1 << d;", "set |= 1 << d;\n d |= 1;");
    breaks("13: round is PROFITABLE if it is nearer").by(nearer, "set |= 1 << d;", "set |= 1 << (d & 2);");
    breaks("13: no such NODE").by("public int profitable(", "grid.hasNode(node) && ", "");
    breaks("13: no such NODE").by("public int profitable(", " && grid.hasNode(to)", "");
    String way = "public int way(";
    breaks("14: i NONE is how many").by(way, "? grid.distance(node, to)", "? grid.distance(node, to) - 1");
    breaks("14: of a NODE to itself there is no way").by(way, "i == NONE ?", "i == NONE && node != to ?");
    breaks("14: i of as many as there are is none").by("int wayStep(", "if (i >= 0 && i < distance(v, to)) {", "if (i >= 0) {")
        .by("int wayStep(", "k <= i;", "k <= i && at != to;");
    breaks("14: i -2 is none").by(way, "i == NONE ?", "i < 0 ?");
    String least = "private static int leastOf(";
    breaks("14: along columns first").by(least, "if ((set >> d & 1) == 1) {\n                    return d;", "if ((set >> (d ^ 2) & 1) == 1) {\n                    return d ^ 2;");
    breaks("14: of two as long ways by columns the lesser").by(least, "if ((set >> d & 1) == 1) {\n                    return d;", "if ((set >> d & 1) == 1) {\n                    return d == 0 ? set >> 1 & 1 : d;");
    breaks("14: of two as long ways by rows the lesser").by(least, "if ((set >> d & 1) == 1) {\n                    return d;", "if ((set >> d & 1) == 1) {\n                    return d == 2 ? 2 + (set >> 3 & 1) : d;");
    breaks("14: no such NODE").by(way, "!grid.hasNode(node) || ", "");
    breaks("14: no such NODE").by(way, " || !grid.hasNode(to)", "");
    String index = "int ringIndex(";
    breaks("16: RINGS of rows and columns have their numbers one behind the other").by(index, "case 1: return rows + row", "case 1: return columns + row");
    breaks("16: RINGS of rows and columns have their numbers one behind the other").by(index, "2 * rows + columns + column", "3 * rows + column");
    breaks("16: no such NODE").by("public int ringOf(", "grid.hasNode(node) && ", "");
    breaks("16: no such DIRECTION").by("public int ringOf(", " && isDirection(d)", "");
  }

  private static void ring() {
    String ring = "public int ring(";
    breaks("15: there is no RING -1").by(ring, "ring < 0 || ", "");
    breaks("15: there are twice W and twice H RINGS").by(ring, "ring >= grid.rings", "ring > grid.rings");
    breaks("15: there are twice W and twice H RINGS").by(ring, "ring >= grid.rings", "ring >= 4 * grid.rows");
    breaks("15: what -1 can't be").by(ring, "case 0:", "case -1: case 0:");
    breaks("15: what 11 can't be").by(ring, "default: return NONE;", "default: return what == 11 ? 0 : NONE;");
    String direction = "int ringDirection(";
    breaks("15: the first and the last RING of each DIRECTION").by(direction, "r < 2 * rows + columns", "r <= 2 * rows + columns");
    breaks("15: the first and the last RING of each DIRECTION").by(direction, "r < rows ? 0 : 1", "r <= rows ? 0 : 1");
    breaks("15: the first and the last RING of each DIRECTION").by("int ringLength(", "r < 2 * rows", "r <= 2 * rows");
    breaks("15: CRITICAL is NONE but with RULE 2").by("case 5: return net.rule == RULE_CRITICAL", "net.rule == RULE_CRITICAL", "net.rule >= 0");
    String clear = "void clearAll(Grid";
    breaks("15: without a MARK OWNER and NODE of it are NONE").by(clear, "Arrays.fill(owner, NONE);", "Arrays.fill(owner, 0);");
    breaks("15: without a MARK OWNER and NODE of it are NONE").by(clear, "Arrays.fill(mark, NONE);", "Arrays.fill(mark, 0);");
    breaks("15: nobody is BARRED at first").by(clear, "Arrays.fill(barred, 0);", "Arrays.fill(barred, 1);");
    breaks("15: ahead of any TICK the fewest free places are all").by(clear, "grid.ringLength(r) * escapePlaces", "0");
    String fewest = "private void noteFewest(";
    breaks("15: the fewest free places there ever were").by(fewest, "Math.min(rings.fewest[r], freeIn(r))", "freeIn(r)");
    breaks("15: the fewest free places are those at the end of a TICK").by("int runTick(", "goFrom(v, k, d);", "goFrom(v, k, d);\n noteFewest();");
    String go = "private void goFrom(";
    breaks("15: ENTERED counts once for each that came in").by(go, "how = 2;", "how = 2;\n rings.entries[grid.ringIndex(v, d)]++;");
    breaks("15: ESCAPE queues alone are counted").by("int heldIn(int r)", "* QUEUES + ESCAPES + d]", "* QUEUES + ADAPTIVES + d] + queues.sizes[grid.ringNode(r, i) * QUEUES + ESCAPES + d]");
    breaks("15: a full RING has no free place").by("int freeIn(int r)", "return grid.ringLength(r) * escapePlaces - heldIn(r);", "return Math.max(1, grid.ringLength(r) * escapePlaces - heldIn(r));");
  }

  private static void hunger() {
    breaks("17: no such NODE").by("public int hunger(", "grid.hasNode(node) && ", "");
    breaks("17: no such DIRECTION").by("public int hunger(", " && isDirection(d)", "");
    breaks("17: HUNGER is 0 at first").by("void clearAll(Grid", "Arrays.fill(hungers, 0);", "Arrays.fill(hungers, 1);");
    String note = "void noteHunger(";
    breaks("17: HUNGER is one more by a TICK, else 0").by(note, ": 0;", ": hungers[i];");
    breaks("17: HUNGER is one more by a TICK, else 0").by(note, "hungers[i] + 1", "hungers[i] + 2");
    breaks("17: HUNGER is 999 at most").by("int MOST_HUNGER = 999", "999", "1000");
    breaks("17: HUNGER is 999 at most").by("int MOST_HUNGER = 999", "999", "998");
    breaks("17: HUNGER is 999 at most").by(note, "Math.min(hungers[i] + 1, MOST_HUNGER)", "(hungers[i] + 1) % (MOST_HUNGER + 1)");
    breaks("17: HUNGER is 0 if one ENTERED, though others wait").by("private void feelHunger(", " && !rings.enteredNow[v * DIRECTIONS + d]", "");
    String go = "private void goFrom(";
    breaks("17: HUNGER grows if one went by ADAPTIVE alone").by(go, "adaptiveHops++;", "adaptiveHops++;\n rings.enteredNow[v * DIRECTIONS + d] = true;");
    breaks("17: HUNGER grows if one CONTINUED there").by(go, "how = 2;", "how = 2;\n rings.enteredNow[v * DIRECTIONS + d] = true;");
    String wants = "private boolean wantsIn(";
    breaks("17: what CONTINUES is not hungry").by(wants, "k != ESCAPES + d && ", "");
    breaks("17: HUNGER is of the ESCAPE DIRECTION alone", "17: of a RING of two both DIRECTIONS count for themselves").by(wants, "isEscape(v, k, d)", "isProfitable(v, k, d)");
    breaks("17: HUNGER looks at what is first by now").by("int runTick(", "int done = deliverFirsts();", "int done = deliverFirsts();\n feelHunger();")
        .by("noteFewest();\n            clock++;", "clock++;", "clock++;")
        .by("            feelHunger();\n            if (limit > 0)", "feelHunger();", "");
    breaks("17: what came by ESCAPE of another DIRECTION is hungry").by(wants, "k != ESCAPES + d && ", "(k == 0 || k >= ADAPTIVES) && ");
    breaks("17: what came by ADAPTIVE of that DIRECTION is hungry").by(wants, "k != ESCAPES + d && ", "k != ESCAPES + d && k != ADAPTIVES + d && ");
  }

  private static void marks() {
    String hungriest = "private int hungriestIn(";
    breaks("15: a MARK begins with HUNGER of BOUND, not with one less", "15: BOUND 99 is not reached with 98").by(hungriest, "limit - 1", "limit - 2");
    breaks("15: a MARK begins with HUNGER of BOUND, not with one less", "15: BOUND 99 is not reached with 98").by(hungriest, "limit - 1", "limit");
    breaks("15: with BOUND 0 there is no MARK", "15: with BOUND 0 a MARK neither goes nor ends").by("int runTick(", "if (limit > 0)", "if (limit >= 0)");
    breaks("15: a MARK goes round, and its OWNER is not BARRED").by("void carryMark(", "if (v != owner[r])", "if (v >= 0)");
    String turn = "private void turnMarks(";
    breaks("15: a MARK goes round, and its OWNER is not BARRED").by(turn, "grid.nextBy(rings.mark[r], d)", "grid.nextBy(rings.mark[r], d ^ 1)");
    breaks("15: a MARK goes round in a RING of two").by("void carryMark(", "if (v != owner[r])", "if (v > owner[r])");
    breaks("15: a MARK that rested goes on with a BOUND again", "15: with BOUND 0 a MARK neither goes nor ends").by("int runTick(", "turnMarks();\n            }", "turnMarks();\n } else {\n for (int r = 0; r < grid.rings; r++) { rings.endMark(r); }\n }");
    breaks("15: a MARK of DIRECTION 1 goes by 1", "15: a MARK of DIRECTION 3 goes by 3").by(turn, "grid.nextBy(rings.mark[r], d)", "grid.nextBy(rings.mark[r], d & 2)");
    breaks("15: a MARK ends with HUNGER 0 of its OWNER").by("void endMark(", "barred[r] = 0;", "");
    breaks("15: a MARK ends with HUNGER 0 of its OWNER").by(turn, "rings.hungers[owner * DIRECTIONS + d] > 0", "rings.hungers[owner * DIRECTIONS + d] >= 0");
    breaks("15: as a MARK ends, another one begins in the same TICK").by(turn, "rings.endMark(r);", "rings.endMark(r);\n continue;");
    breaks("15: of several as hungry the least NODE is OWNER").by(hungriest, "limit - 1", "limit").by(hungriest, "> most", ">= most");
    breaks("15: the one with the most HUNGER is OWNER").by(hungriest, "most = rings.hungers[v * DIRECTIONS + d];", "break;");
    breaks("15: a RING with a MARK takes no second one").by(turn, "continue;", "");
    breaks("15: the OWNER is a NODE of the RING").by(hungriest, "i < grid.ringLength(r)", "i <= grid.ringLength(r)");
    breaks("15: RINGS have MARKS each for itself").by(turn, "rings.setMark(r, hungriest);", "rings.setMark(r, hungriest);\n break;");
  }

  private static void node() {
    String node = "public int node(";
    breaks("18: there is no NODE -1").by(node, "!grid.hasNode(node)", "node >= grid.nodes");
    breaks("18: there is no NODE of as many as there are").by(node, "!grid.hasNode(node)", "node < 0");
    breaks("18: what -1 can't be").by(node, "case 0:", "case -1: case 0:");
    breaks("18: what 6 can't be").by(node, "default: return NONE;", "default: return what == 6 ? 0 : NONE;");
    breaks("18: all is 0 at first").by("void clearAll(Grid", "Arrays.fill(topHunger, 0);", "Arrays.fill(topHunger, 1);");
    breaks("18: all its queues are DOOR, ESCAPE and ADAPTIVE ones").by(node, "net.queues.heldFrom(node * QUEUES, QUEUES)", "net.queues.heldFrom(node * QUEUES, QUEUES - 1)");
    breaks("18: all its queues are DOOR, ESCAPE and ADAPTIVE ones").by(node, "net.queues.heldFrom(node * QUEUES, QUEUES)", "net.queues.heldFrom(node * QUEUES + 1, QUEUES - 1)");
    breaks("18: DELIVERED ones are no more in its queues").by(node, "net.queues.heldFrom(node * QUEUES, QUEUES)", "net.queues.heldFrom(node * QUEUES, QUEUES) + net.packets.deliveredTo(node)");
    breaks("18: the most HUNGER it ever had").by("void noteHunger(", "Math.max(topHunger[v], hungers[i])", "hungers[i]");
    breaks("18: the most HUNGER is 999 at most").by("int MOST_HUNGER = 999", "999", "1000");
    breaks("18: the most TICKS in the DOOR are of those that left").by(node, "return net.packets.longestAtDoor(node)",
        "return net.queues.sizes[node * QUEUES] > 0 ? net.clock - net.packets.born[net.queues.first(node * QUEUES)] : net.packets.longestAtDoor(node)");
    breaks("18: the most TICKS in the DOOR are of its own packets").by("int longestAtDoor(", "from[p] == v && ", "");
    breaks("18: the most TICKS in the DOOR are those of PACKET 0, too").by("int longestAtDoor(", "int p = 0;", "int p = 1;");
    breaks("18: the most TICKS in the DOOR are 0 if it leaves at once", "18: the most TICKS in the DOOR are TICK less BORN").by("int longestAtDoor(", "leftDoor[p] - born[p]", "leftDoor[p] - born[p] + 1");
  }

  private static void movesAndLinks() {
    String move = "public int move(";
    breaks("19: i NONE is how many, 0 at first").by(move, "i == NONE ?", "i == NONE && net.moves.count > 0 ?");
    String fact = "int fact(int i, int what)";
    breaks("19: i of as many as there are is none").by(fact, "i < count", "i <= count");
    breaks("19: i -2 is none").by(move, "i == NONE ?", "i < 0 ?");
    breaks("19: what -1 can't be").by(move, "within(what, 0, Moves.FIELDS - 1)", "within(what, -1, Moves.FIELDS - 1)").by(fact, "within(what, 0, FIELDS - 1)", "within(what, -1, FIELDS - 1)");
    breaks("19: what 5 can't be").by(move, "within(what, 0, Moves.FIELDS - 1)", "within(what, 0, Moves.FIELDS)").by(fact, "within(what, 0, FIELDS - 1)", "within(what, 0, FIELDS)");
    breaks("19: how many is the same with each what there is, and NONE with another").by(move, "i == NONE ?", "i == NONE && what == 0 ?");
    breaks("19: how many is the same with each what there is, and NONE with another").by(move, "if (!within(", "if (i != NONE && !within(");
    String go = "private void goFrom(";
    breaks("19: ENTERED is 1, CONTINUED 2, by ADAPTIVE 0").by(go, "how = 2;", "how = 1;");
    breaks("19: ENTERED is 1, CONTINUED 2, by ADAPTIVE 0").by(go, "int how = 0;", "int how = 1;");
    breaks("19: turning into another RING is ENTERING").by("boolean continues(int v", "k == ESCAPES + d &&", "k >= ESCAPES && k < ADAPTIVES &&");
    breaks("19: by all LINKS there are").by("void add(int packet", "count >= MOST_LINKS", "count >= MOST_LINKS / 4 - 1");
    breaks("20: no such NODE").by("public int link(", "grid.hasNode(node) && ", "");
    breaks("20: no such DIRECTION").by("public int link(", " && isDirection(d)", "");
    breaks("20: a LINK has 0 at first").by("void begin(", "Arrays.fill(links, 0);", "Arrays.fill(links, 1);");
    breaks("20: a LINK counts both lanes, each DIRECTION for itself").by(go, "links[v * DIRECTIONS + d]++;", "links[v * DIRECTIONS + (d & 2)]++;");
    breaks("20: a LINK counts both lanes, each DIRECTION for itself").by(go, "links[v * DIRECTIONS + d]++;", "links[v * DIRECTIONS + d] += lane - 1;");
    String behind = "int nodeBehind(";
    breaks("21: i 0 is FROM, in the DOOR, too").by(behind, "i <= hops[p]", "i < hops[p]");
    breaks("21: i 0 is FROM, in the DOOR, too").by("int add(int source", "traces[p * TRACE_PLACES] = source;", "traces[p * TRACE_PLACES] = target;");
    breaks("21: i of HOPS is the last one").by(behind, "i <= hops[p]", "i <= hops[p] + 1");
    breaks("21: i of HOPS is the last one").by("int TRACE_PLACES = 5", "5", "4");
    breaks("21: i -1 is none").by(behind, "i >= 0 && ", "");
    breaks("21: i -1 is none").by("public int trace(", "net.packets.nodeBehind(packet, i)", "net.packets.nodeBehind(packet, Math.max(i, 0))");
  }

  private static void pairs() {
    String pair = "public int pair(";
    breaks("22: of a NODE with itself 0, 0, 0, NONE").by(pair, "if (!grid.hasNode(from)", "if (from == to || !grid.hasNode(from)");
    breaks("22: of a NODE with itself 0, 0, 0, NONE", "22: of a pair with none SENT 0, 0, 0, NONE", "22: the greatest LATE is NONE until one is DELIVERED").by("int latestBetween(", "int latest = NONE;", "int latest = 0;");
    breaks("22: the greatest LATE of several").by("int latestBetween(", "Math.max(latest, lateness(p))", "lateness(p)");
    breaks("22: no such NODE").by(pair, "!grid.hasNode(from) || ", "");
    breaks("22: no such NODE").by(pair, " || !grid.hasNode(to)", "");
    breaks("22: what -1 can't be").by(pair, "case 0:", "case -1: case 0:");
    breaks("22: what 4 can't be").by(pair, "default: return NONE;", "default: return what == 4 ? 0 : NONE;");
  }

  private static void lates() {
    String within = "int lateWithin(";
    breaks("23: low counts, too", "23: low and high may be one").by(within, ">= low", "> low");
    breaks("23: high counts, too", "23: low and high may be one").by(within, "<= high", "< high");
    breaks("23: none if low is more than high").by(within, "lateness(p) >= low && lateness(p) <= high", "lateness(p) >= Math.min(low, high) && lateness(p) <= Math.max(low, high)");
    breaks("23: all ints can be low and high").by(within, "lateness(p) <= high", "lateness(p) - high <= 0");
    breaks("23: all ints can be low and high").by("public int late(", "return net", "return low < 0 ? NONE : net");
    breaks("23: only DELIVERED ones are LATE").by(within, "isDelivered(p) && ", "");
    breaks("23: LATE is TICK in (a) less BORN").by("private int lateness(", "done[p] - born[p]", "done[p] - born[p] + 1");
    String lates = "public int lates(";
    breaks("24: i NONE is how many, 0 at first").by(lates, "if (i == NONE)", "if (i == NONE && net.packets.delivered > 0)");
    breaks("24: rising, each once").by("private int lateAbove(", "lateness(p) < least", "lateness(p) > least");
    breaks("24: rising, each once").by("private int lateAbove(", "lateness(p) > low", "lateness(p) >= low");
    breaks("24: a single LATE, of PACKET 0").by("private int lateAbove(", "int p = 0;", "int p = 1;");
    breaks("24: i of as many as there are is none").by("int lateAt(", "k++) {\n                value = lateAbove(value);", "k++) {\n                value = Math.max(value, lateAbove(value));");
    breaks("24: i -2 is none").by(lates, "if (i == NONE)", "if (i < 0)");
    breaks("24: what -1 can't be").by(lates, "within(what, 0, 1)", "within(what, -1, 1)");
    breaks("24: what 2 can't be").by(lates, "within(what, 0, 1)", "within(what, 0, 2)");
  }

  private static void goesOn() {
    String on = "public int goesOn(";
    breaks("25: NONE of a DELIVERED one").by(on, "if (!net", "if (net.packets.has(packet) && net.packets.isDelivered(packet)) {\n return 1;\n }\n if (!net");
    breaks("25: NONE of one that is not the first of its queue").by(on, "if (net.queues.first(q) != packet)", "if (q < 0)");
    String once = "private boolean goesAtOnce(";
    breaks("25: what is in its TO CAN GO ON").by(once, "if (net.isInTo(v, k))", "if (k < 0)");
    breaks("25: what can go now CAN GO ON, what can't not").by(once, "net.escapeLets(v, k, d)", "net.isEscape(v, k, d)");
    breaks("25: what can go now CAN GO ON, what can't not").by(once, "net.adaptiveLets(v, k, d) || net.escapeLets(v, k, d)", "d < 0");
    breaks("25: were nobody BARRED").by(once, "net.escapeLets(v, k, d)", "(net.escapeLets(v, k, d) && !net.isBarred(v, d))");
    String follows = "private boolean follows(";
    breaks("25: behind a first one of an ADAPTIVE queue that CAN GO ON").by(follows, "net.isProfitable(v, k, d) && ", "d < 0 && ");
    breaks("25: what CONTINUES goes on behind the first one of the next ESCAPE queue").by(follows, "? goesOn[ahead + ESCAPES + d]", "? d < 0");
    breaks("25: what CONTINUES goes on behind the first one of the next ESCAPE queue").by(follows, "net.continues(v, k, d) ? goesOn[ahead + ESCAPES + d]", "net.continues(v, k, d) ? net.queues.sizes[ahead + ESCAPES + d] > 0");
    breaks("25: what would ENTER goes on behind any first one of the RING").by(follows, ": anyInRing(net.grid, v, d)", ": goesOn[ahead + ESCAPES + d]");
    breaks("25: any first one of the RING, that in its least NODE, too").by("private boolean anyInRing(", "int i = 0;", "int i = 1;");
    breaks("25: any first one of the RING, that in its least NODE, too").by("private boolean anyInRing(", "i < grid.ringLength(r)", "i < grid.ringLength(r) - 1");
    breaks("25: again and again, however long the row is").by("void judge(Net net)", "turn < MOST_QUEUES", "turn < 1");
    breaks("25: an empty queue has no first one that CAN GO ON").by("void judge(Net net)", "goesAtOnce(net, q / QUEUES, q % QUEUES)", "(net.queues.sizes[q] == 0 || goesAtOnce(net, q / QUEUES, q % QUEUES))");
    String held = "int held(Net net)";
    breaks("26: nothing is STUCK in an empty TORUS").by(held, "int several = 0;", "int several = 1;");
    breaks("26: nothing is STUCK while all go").by(held, "if (!goesOn[q])", "if (q >= 0)");
    breaks("26: those behind are STUCK, too").by(held, "several += net.queues.sizes[q];", "several += Math.min(1, net.queues.sizes[q]);");
    breaks("26: a full DOOR of STUCK ones").by(held, "several += net.queues.sizes[q];", "several += Math.min(5, net.queues.sizes[q]);");
    breaks("26: those in the first DOOR and in the last queue are STUCK, too").by(held, "int q = 0;", "int q = 1;");
    breaks("26: those in the first DOOR and in the last queue are STUCK, too").by(held, "q < MOST_QUEUES", "q < 7 * QUEUES");
    breaks("26: DELIVERED ones are not STUCK").by("public int stuck(", "return outlook.held(net);", "return outlook.held(net) + net.packets.delivered;");
    String dead = "public int dead(";
    breaks("27: without packets it is not DEAD").by(dead, "if (net.packets.left() == 0)", "if (net.packets.left() < 0)");
    breaks("27: DEAD if none of the first ones CAN GO ON").by(dead, "outlook.anyGoesOn() ? 0 : 1", "0");
    breaks("27: not DEAD while one CAN GO ON").by(dead, "outlook.anyGoesOn() ? 0 : 1", "outlook.held(net) > 0 ? 1 : 0");
    breaks("27: what is behind a first one does not keep it alive").by(dead, "outlook.anyGoesOn() ?", "outlook.anyGoesOn() || outlook.held(net) > net.grid.nodes / 4 && net.queues.sizes[QUEUES] > 1 ?");
  }

  private static void thoughts() {
    String until = "private int ticksUntilDelivered(";
    breaks("28: 0 if nothing is on its way", "28: to the TICK in which the last one is DELIVERED").by(until, "int ticks = 0;", "int ticks = 1;");
    breaks("28: to the TICK in which the last one is DELIVERED", "29: the longest way").by("int MOST_THOUGHT_TICKS = 1000", "1000", "4");
    breaks("28: NONE if they are not DELIVERED", "28: NONE though others are DELIVERED", "29: NONE if it does not arrive").by(until, "if (idle == 2) {\n                return NONE;", "if (idle == 2) {\n                return ticks;");
    breaks("28: NONE though others are DELIVERED").by(until, "thought.packets.left() == 0", "thought.packets.left() <= 1");
    breaks("28: a MARK that ends in an idle TICK lets go").by(until, "if (idle == 2)", "if (idle == 1)");
    breaks("28: in THOUGHT alone").by("public int through(", "thought.copyFrom(net);", "thought.copyFrom(net);\n net.runTick();");
    String arrives = "public int arrives(";
    breaks("29: NONE to itself").by(arrives, "thought.copyFrom(net);", "if (from == to) {\n return 0;\n }\n thought.copyFrom(net);");
    breaks("29: it alone counts").by(arrives, "ticksUntilDelivered(extra)", "ticksUntilDelivered(NONE)");
    breaks("29: in THOUGHT alone").by(arrives, "thought.copyFrom(net);", "thought.copyFrom(net);\n net.admit(from, to);");
  }

  private static void enters() {
    String enters = "public int enters(";
    breaks("30: no such NODE").by(enters, "!grid.hasNode(node) || ", "");
    breaks("30: no such DIRECTION").by(enters, " || !isDirection(d)", "");
    breaks("30: a NODE without packets might, too").by(enters, "return net.ruleLets", "return net.queues.heldFrom(node * QUEUES, QUEUES) > 0 && net.ruleLets");
    breaks("30: not while it is BARRED").by(enters, " && !net.isBarred(node, d)", "");
    breaks("30: BARRED in one RING alone").by("boolean isBarred(int v", "grid.ringIndex(v, d)", "grid.ringIndex(v, d & 2)");
    breaks("30: with E 1 and RULE 2 all but the NODE ahead of CRITICAL").by("boolean ruleLets(int v, int d)", "== grid.nextBy(v, d)", "== v");
  }

  private static void schedules() {
    String run = "boolean run(Net net)";
    breaks("31: an empty TORUS has one STATE and one row").by(run, "reach(net, 1);", "reach(net, 0);");
    breaks("31: 3 packets can be").by(run, "net.packets.left() > MOST_LEFT", "net.packets.left() >= MOST_LEFT");
    breaks("31: NONE with 4 packets").by(run, "net.packets.left() > MOST_LEFT", "net.packets.left() > MOST_LEFT + 1");
    breaks("31: DELIVERED ones do not count among the 3").by(run, "net.packets.left() > MOST_LEFT", "net.packets.count > MOST_LEFT");
    String most = "static final int MOST_STATES = 400";
    breaks("31: 400 STATES can be").by(most, "400", "399");
    breaks("31: NONE with 401 STATES").by(most, "400", "401");
    breaks("31: NONE with 401 STATES", "31: NONE with many more STATES").by("private void reach(", "tooMany = true;", "");
    String what = "public int schedules(";
    breaks("31: what -1 can't be").by(what, "within(what, 0, Search.ANSWERS - 1)", "within(what, -1, Search.ANSWERS - 1)").by(what, "search.answers[what]", "search.answers[Math.max(what, 0)]");
    breaks("31: what 5 can't be").by(what, "within(what, 0, Search.ANSWERS - 1)", "within(what, 0, Search.ANSWERS)").by(what, "search.answers[what]", "search.answers[Math.min(what, 4)]");
    breaks("31: rows are counted up to 1000003").by("int MODULUS = 1000003", "1000003", "700000");
    breaks("31: behind too many STATES the next ones answer for themselves").by(run, "tooMany = false;", "");
    breaks("31: of what came by another DIRECTION").by("private static final class Packets", "copyRow(other.cameBy, cameBy);", "");
    breaks("31: a STATE with packets and no STEP").by("private void weigh(Net", "else if (steps == 0)", "else if (steps < 0)");
    String step = "private void tryBy(";
    breaks("31: nobody is BARRED").by(step, "net.escapeLets(v, k, d)", "net.escapeLets(v, k, d) && !net.isBarred(v, d)");
    breaks("31: the STATE that is counts, too").by(run, "answers[0] = count;", "answers[0] = count - 1;");
    breaks("31: both lanes are STEPS").by(step, "net.adaptiveLets(v, k, d)", "d < 0");
    breaks("31: both lanes are STEPS").by(step, "net.escapeLets(v, k, d)", "net.escapeLets(v, k, d) && !net.adaptiveLets(v, k, d)");
    breaks("31: a full ADAPTIVE queue is no STEP").by(step, "net.adaptiveLets(v, k, d)", "net.isProfitable(v, k, d)");
    breaks("31: the RULE binds STEPS").by(step, "net.escapeLets(v, k, d)", "net.isEscape(v, k, d)");
    breaks("31: the order within queues is of the STATE").by("private long keyOf(", "int place = spots[i] == ARRIVED ? 0 : net.queues.placeOf(spots[i], ids[i]);", "int place = 0;");
    breaks("31: the order within queues is of the STATE, whose ways part, too").by("private void open(Net net", "places[i] = (int) (rest & 3);", "places[i] = (int) (rest & 2);");
    breaks("31: where CRITICAL is is of the STATE").by("int placeInRing(", "d < 2", "d < 3");
    breaks("31: where CRITICAL is is of the STATE").by("private long keyOf(", "place = net.grid.placeInRing(net.rings.critical[r], net.grid.ringDirection(r));", "place = 0;");
    breaks("31: where CRITICAL went counts in the next STATES").by("private void open(Net net", "net.grid.ringNode(r, (int) (rest & 3))", "net.grid.ringNode(r, (int) (rest & 2))");
    breaks("31: the fewest free places of any RING are 0 if one is full").by("private void weigh(Net", "net.freeIn(r)", "Math.max(1, net.freeIn(r))");
    breaks("31: in THOUGHT alone").by(what, "search.run(thought)", "search.run(net)");
  }

  private static void alone() {
    String can = "private static boolean canBe(";
    breaks("32: N 1 can't be").by(can, "within(n, 2, 3)", "within(n, 1, 3)");
    breaks("32: N 5 can't be").by(can, "n == 4", "n >= 4");
    breaks("32: E 0 can't be").by(can, "within(e, 1, 3)", "within(e, 0, 3)");
    breaks("32: N 2 with E 4 can't be", "32: N 3 with E 4 can't be").by(can, "within(e, 1, 3)", "within(e, 1, 4)");
    breaks("32: N 4 with E 2 can't be").by(can, "e == 1", "e <= 2");
    String answer = "int answer(int n";
    breaks("32: RULE -1 can't be").by(answer, "within(aRule, 0, 2)", "within(aRule, -1, 2)");
    breaks("32: RULE 3 can't be").by(answer, "within(aRule, 0, 2)", "within(aRule, 0, 3)");
    breaks("32: what -1 can't be").by(answer, "within(what, 0, ANSWERS - 1)", "within(what, -1, ANSWERS - 1)");
    breaks("32: what 8 can't be").by(answer, "within(what, 0, ANSWERS - 1)", "within(what, 0, ANSWERS)");
    breaks("32: N 2 with E 1 can be", "32: N 2 with E 3 can be").by(can, "within(n, 2, 3)", "within(n, 3, 3)");
    breaks("32: N 3 with E 1 can be", "32: N 3 with E 3 can be").by(can, "within(n, 2, 3)", "within(n, 2, 2)");
    breaks("32: N 2 with E 1 can be", "32: N 3 with E 1 can be").by(can, "within(e, 1, 3)", "within(e, 2, 3)");
    breaks("32: N 2 with E 3 can be", "32: N 3 with E 3 can be").by(can, "within(e, 1, 3)", "within(e, 1, 2)");
    breaks("32: N 4 with E 1 can be").by(can, "n == 4", "n == 5");
    breaks("32: N 4 with E 1 can be").by("void prepare(int n", "kinds = n - 1;", "kinds = Math.min(2, n - 1);");
    breaks("32: N 3 with E 3 can be").by("static final int MOST_STATES = 10125", "10125", "3374");
    breaks("32: RULE 1 with E 1 can be here").by(answer, "!within(aRule, 0, 2)", "!within(aRule, 0, 2) || (aRule == 1 && e == 1)");
    String lets = "private boolean ruleLets(int v)";
    breaks("32: RULE 1 needs two places", "32: RULE 2 needs two places where CRITICAL is", "32: no DEAD one with RULES 1 and 2").by(lets, "(twoNeeded ? 2 : 1)", "1");
    breaks("32: RULE 2 needs two places where CRITICAL is").by(lets, " || (rule == RULE_CRITICAL && critical == v)", "");
    breaks("32: CRITICAL is at NODE 0 at first").by("        private void open(int s)", "critical = s / weights[nodes];", "critical = (s / weights[nodes] + 1) % nodes;");
    breaks("32: CRITICAL moves as what CONTINUES takes its last place").by("private void listStepOfFirst(", "boolean takesLast = rule == RULE_CRITICAL && critical == to && free == 1;", "boolean takesLast = false;");
    breaks("32: the empty STATE is not DEAD").by("private void weigh(int s", "held > 0 && plainCount == 0", "plainCount == 0");
    breaks("32: STARVING needs an endless row").by("private boolean isStarving(", "!leadsOn(order[i])", "i < 0");
    breaks("32: others may ENTER while it is STARVING").by("private boolean leadsOn(", "k < stepCount", "k < plainCount");
    breaks("32: no ENTERING is in a WAIT").by("private int waitIn(", "k < plainCount", "k < stepCount");
    breaks("32: WAIT ends as it is let ENTER").by("private int waitIn(", "if (!ruleLets(0))", "if (s >= 0)");
    breaks("32: all that can be").by("private boolean ruleLets(int v)", "critical == v", "critical == 0");
    breaks("32: all that can be").by("private int longestWait(", "turn <= MOST_STATES", "turn < 1");
    for (String which : new String[] {"((n - 2) + 3 + e - 1) * 3 + aRule", "((n - 2) * 3 + e - 1) + 3 + aRule", "((n - 2) * 3 + e - 1) * 2 + aRule"}) {
      breaks("32: each that can be, asked one behind the other").by(answer, "((n - 2) * 3 + e - 1) * 3 + aRule", which);
    }
    breaks("32: asked by turns each answers for itself").by(answer, "int which = ((n - 2) * 3 + e - 1) * 3 + aRule;", "int which = aRule;");
    breaks("32: it changes nothing").by("public int alone(", "return loneRing", "net.lost++;\n return loneRing");
  }

  private static void look() {
    String look = "public int look(";
    breaks("33: what -1 is NONE - 9", "33: what 20 is NONE - 9").by(look, "default: return NONE - 9", "default: return NONE");
    breaks("33: what 19 is the last one").by(look, "case 19: return net.lost", "case 19: return NONE - 9");
    breaks("33: STATE may be any int, -10 too").by(look, "return drawState", "return Math.max(drawState, NONE - 9)");
    breaks("33: each packet is in one place alone").by(look, "net.heldInLane(ADAPTIVE)", "net.heldInLane(ESCAPE) + net.heldInLane(ADAPTIVE)");
    breaks("33: MARKS there ever were stay as they end").by("void endMark(", "barred[r] = 0;", "barred[r] = 0;\n marksEver--;");
    breaks("33: MARKS there ever were are counted in each RING").by("void setMark(", "marksEver++;", "marksEver = 1;");
    breaks("33: LATE, HOPS and OUT OF ORDER are 0 at first").by("void begin(", "adaptiveHops = 0;", "adaptiveHops = 1;");
    breaks("33: LATE is of DELIVERED ones alone, HOPS of all").by("int hopsTogether(", "sum += hops[p];", "sum += isDelivered(p) ? hops[p] : 0;");
    breaks("33: LATE is of DELIVERED ones alone, HOPS of all").by("int lateTogether(", "if (isDelivered(p))", "if (p >= 0)");
    breaks("33: LATE of all together").by("int lateTogether(", "sum += lateness(p);", "sum = lateness(p);");
    breaks("33: by ADAPTIVE is of HOPS").by("private void goFrom(", "adaptiveHops++;", "adaptiveHops = 1;");
    breaks("33: the 512th call answers as any other").by("private int drawState = 0;", "private int drawState = 0;", "private int drawState = 0;\n private int calls = 0;")
        .by("public int tick(", "if (!within", "calls++;\n if (!within").by("public int send(", "return net", "return calls > 509 ? NONE : net");
  }
}

import java.util.ArrayDeque;
import java.util.ArrayList;
import java.util.Arrays;
import java.util.HashMap;
import java.util.HashSet;
import java.util.LinkedHashMap;
import java.util.LinkedHashSet;
import java.util.List;
import java.util.Map;
import java.util.Set;
import java.util.TreeMap;

/**
 * The document once more, sentence by sentence, with lists, maps and recursion and without a thought for
 * speed. AgainstModelTest asks it and the program the same things. It shares no code with the program.
 */
public final class PlainModel {
  private static final int[] DX = {1, -1, 0, 0};
  private static final int[] DY = {0, 0, 1, -1};

  private static final class Packet {
    int id, from, to, born, lane, at, came = -1, hops, done = -1, entered, out, left = -1, went = -1;
    final List<Integer> trace = new ArrayList<>();
  }

  private int w, h, e, a, rule, bound, tick, state, lost, adaptiveHops, marksEver;
  private List<Packet> packets;
  private Map<String, List<Packet>> queues;
  private List<int[]> moves;
  private int[][] links, hunger;
  private int[] topHunger, critical, owner, mark, entries, fewest;
  private List<Set<Integer>> barred;
  private final List<int[]> log = new ArrayList<>();

  public PlainModel() { torus(3, 3, 2, 1, 1, 8); }

  private int nodes() { return w * h; }
  private boolean isNode(int v) { return 0 <= v && v < nodes(); }
  private static boolean isDir(int d) { return 0 <= d && d < 4; }
  private int nextOf(int v, int d) {
    return Math.floorMod(v / w + DY[d], h) * w + Math.floorMod(v % w + DX[d], w);
  }

  /** Breadth first over the links. */
  private int farOf(int v, int to) {
    Map<Integer, Integer> dist = new HashMap<>();
    dist.put(v, 0);
    ArrayDeque<Integer> todo = new ArrayDeque<>(List.of(v));
    while (!todo.isEmpty()) {
      int u = todo.poll();
      for (int d = 0; d < 4; d++) if (dist.putIfAbsent(nextOf(u, d), dist.get(u) + 1) == null) todo.add(nextOf(u, d));
    }
    return dist.get(to);
  }
  private boolean isNearer(int v, int to, int d) { return farOf(nextOf(v, d), to) < farOf(v, to); }
  private int escapeDir(int v, int to) {
    if (v % w != to % w) return isNearer(v, to, 0) ? 0 : 1;
    if (v / w != to / w) return isNearer(v, to, 2) ? 2 : 3;
    return -1;
  }

  private List<int[]> ringList() {          // direction, row or column
    List<int[]> all = new ArrayList<>();
    for (int d = 0; d < 4; d++) for (int k = 0; k < (d < 2 ? h : w); k++) all.add(new int[] {d, k});
    return all;
  }
  private List<Integer> ringNodes(int r) {
    int[] x = ringList().get(r);
    List<Integer> all = new ArrayList<>();
    for (int v = 0; v < nodes(); v++) if ((x[0] < 2 ? v / w : v % w) == x[1]) all.add(v);
    return all;
  }
  private int ringAt(int v, int d) {
    for (int r = 0; r < ringList().size(); r++) if (ringList().get(r)[0] == d && ringNodes(r).contains(v)) return r;
    return -1;
  }

  private List<Packet> q(int v, int lane, int d) {
    return queues.computeIfAbsent(v + "/" + lane + "/" + d, x -> new ArrayList<>());
  }
  private Packet firstOf(int v, int lane, int d) { List<Packet> l = q(v, lane, d); return l.isEmpty() ? null : l.get(0); }
  private static final int[][] NINE = {{0, 0}, {1, 0}, {1, 1}, {1, 2}, {1, 3}, {2, 0}, {2, 1}, {2, 2}, {2, 3}};

  public boolean torus(int w, int h, int e, int a, int rule, int bound) {
    if (w < 2 || w > 4 || h < 2 || h > 4 || e < 1 || e > 4 || a < 0 || a > 3 || rule < 0 || rule > 2 || bound < 0 || bound > 99) return false;
    if (rule == 1 && e == 1) return false;
    this.w = w; this.h = h; this.e = e; this.a = a; this.rule = rule; this.bound = bound;
    tick = 0; lost = 0; adaptiveHops = 0; marksEver = 0;
    packets = new ArrayList<>(); queues = new HashMap<>(); moves = new ArrayList<>();
    links = new int[nodes()][4]; hunger = new int[nodes()][4]; topHunger = new int[nodes()];
    int rings = ringList().size();
    critical = new int[rings]; owner = new int[rings]; mark = new int[rings]; entries = new int[rings]; fewest = new int[rings];
    barred = new ArrayList<>();
    Arrays.fill(owner, -1); Arrays.fill(mark, -1);
    for (int r = 0; r < rings; r++) {
      critical[r] = ringNodes(r).get(0);
      fewest[r] = ringNodes(r).size() * e;
      barred.add(new HashSet<>());
    }
    log.clear();
    log.add(new int[] {0, w, h, e, a, rule, bound});
    return true;
  }

  public int send(int from, int to) {
    if (!isNode(from) || !isNode(to) || from == to || packets.size() == 250 || q(from, 0, 0).size() == 6) return -1;
    Packet p = new Packet();
    p.id = packets.size(); p.from = from; p.to = to; p.born = tick; p.at = from; p.trace.add(from);
    packets.add(p);
    q(from, 0, 0).add(p);
    log.add(new int[] {1, from, to});
    return p.id;
  }
  private int draw(int m) {
    state = (int) (1664525L * state + 1013904223L);
    return (int) (((state & 0xffffffffL) >> 8) % m);
  }
  public int shower(int n) {
    if (n < 1 || n > 60) return -1;
    int sent = 0;
    for (int i = 0; i < n; i++) {
      int from = draw(nodes());
      int to = draw(nodes() - 1);
      if (to >= from) to++;
      if (send(from, to) >= 0) sent++; else lost++;
    }
    return sent;
  }
  public int pattern(int kind, int node) {
    if (kind < 0 || kind > 4 || kind == 4 && !isNode(node)) return -1;
    int sent = 0;
    for (int v = 0; v < nodes(); v++) {
      int col = v % w, row = v / w;
      int to = kind == 0 ? (col + w / 2) % w + (row + h / 2) % h * w
          : kind == 1 ? nodes() - 1 - v
          : kind == 2 ? row % w + col % h * w
          : kind == 3 ? nextOf(v, 0) : node;
      if (to == v) continue;
      if (send(v, to) >= 0) sent++; else lost++;
    }
    return sent;
  }

  // ---- a tick
  private boolean continuesBy(Packet p, int v, int lane, int d0, int d) {
    return lane == 1 && d0 == d && escapeDir(v, p.to) == d;
  }
  private boolean byAdaptive(Packet p, int v, int d) {
    return isNearer(v, p.to, d) && q(nextOf(v, d), 2, d).size() < a;
  }
  private boolean ruleOk(int v, int d) {
    int u = nextOf(v, d);
    int free = e - q(u, 1, d).size();
    if (rule == 0) return free >= 1;
    if (rule == 1) return free >= 2;
    return free >= (critical[ringAt(v, d)] == u ? 2 : 1);
  }
  private boolean byEscape(Packet p, int v, int lane, int d0, int d, boolean bars) {
    if (escapeDir(v, p.to) != d) return false;
    if (continuesBy(p, v, lane, d0, d)) return q(nextOf(v, d), 1, d).size() < e;
    return !(bars && barred.get(ringAt(v, d)).contains(v)) && ruleOk(v, d);
  }
  private void takeOver(Packet p, int v, int lane0, int d0, int d, int lane) {
    boolean cont = lane == 1 && continuesBy(p, v, lane0, d0, d);
    int u = nextOf(v, d);
    q(v, lane0, d0).remove(0);
    q(u, lane, d).add(p);
    if (cont && rule == 2 && critical[ringAt(v, d)] == u && q(u, 1, d).size() == e) critical[ringAt(v, d)] = v;
  }
  private int oneTick() {
    int delivered = 0;
    for (int v = 0; v < nodes(); v++) for (int lane = 1; lane <= 2; lane++) for (int d = 0; d < 4; d++) {
      Packet p = firstOf(v, lane, d);
      if (p == null || p.to != v) continue;
      q(v, lane, d).remove(0);
      for (Packet o : packets) if (o.id > p.id && o.from == p.from && o.to == p.to && o.lane == 3) p.out = 1;
      p.lane = 3; p.done = tick;
      delivered++;
    }
    moves = new ArrayList<>();
    Set<String> enteredFrom = new HashSet<>();
    for (int i = 0; i < nodes(); i++) for (int d = 0; d < 4; d++) {
      int v = (tick + i) % nodes();
      Packet best = null; int[] from = null;
      for (int[] k : NINE) {
        Packet p = firstOf(v, k[0], k[1]);
        if (p == null || p.went == tick) continue;
        if (!byAdaptive(p, v, d) && !byEscape(p, v, k[0], k[1], d, true)) continue;
        if (best == null || precedes(p, k, best, from, v, d)) { best = p; from = k; }
      }
      if (best == null) continue;
      boolean cont = continuesBy(best, v, from[0], from[1], d);
      int lane = byAdaptive(best, v, d) ? 2 : 1;
      takeOver(best, v, from[0], from[1], d, lane);
      int how = lane == 2 ? 0 : cont ? 2 : 1;
      if (lane == 2) adaptiveHops++;
      if (how == 1) { best.entered++; entries[ringAt(v, d)]++; enteredFrom.add(v + "/" + d); }
      if (best.lane == 0) best.left = tick;
      best.lane = lane; best.at = nextOf(v, d); best.came = d; best.hops++; best.went = tick; best.trace.add(best.at);
      links[v][d]++;
      moves.add(new int[] {best.id, v, d, lane, how});
    }
    for (int v = 0; v < nodes(); v++) for (int d = 0; d < 4; d++) {
      boolean wants = false;
      for (int[] k : NINE) {
        if (k[0] == 1 && k[1] == d) continue;
        Packet p = firstOf(v, k[0], k[1]);
        if (p != null && escapeDir(v, p.to) == d) wants = true;
      }
      hunger[v][d] = wants && !enteredFrom.contains(v + "/" + d) ? Math.min(999, hunger[v][d] + 1) : 0;
      topHunger[v] = Math.max(topHunger[v], hunger[v][d]);
    }
    if (bound > 0) for (int r = 0; r < owner.length; r++) {
      int d = ringList().get(r)[0];
      if (owner[r] >= 0 && hunger[owner[r]][d] == 0) { owner[r] = -1; mark[r] = -1; barred.get(r).clear(); }
      if (owner[r] >= 0) {
        mark[r] = nextOf(mark[r], d);
        if (mark[r] != owner[r]) barred.get(r).add(mark[r]);
      } else {
        int best = -1;
        for (int v : ringNodes(r)) if (hunger[v][d] >= bound && (best < 0 || hunger[v][d] > hunger[best][d])) best = v;
        if (best >= 0) { owner[r] = best; mark[r] = best; marksEver++; }
      }
    }
    for (int r = 0; r < owner.length; r++) fewest[r] = Math.min(fewest[r], ring(r, 4));
    tick++;
    return delivered;
  }
  private boolean precedes(Packet p, int[] k, Packet best, int[] from, int v, int d) {
    boolean c = continuesBy(p, v, k[0], k[1], d), b = continuesBy(best, v, from[0], from[1], d);
    if (c != b) return c;
    return p.born != best.born ? p.born < best.born : p.id < best.id;
  }
  public int tick(int n) {
    if (n < 1 || n > 100) return -1;
    int sum = 0;
    for (int i = 0; i < n; i++) sum += oneTick();
    log.add(new int[] {2, n});
    return sum;
  }
  public int state(int v) { int was = state; state = v; return was; }
  public boolean bound(int v) {
    if (v < 0 || v > 99) return false;
    bound = v;
    log.add(new int[] {3, v});
    return true;
  }

  // ---- what is told
  public int packet(int i, int what) {
    if (i < 0 || i >= packets.size() || what < 0 || what > 10) return -1;
    Packet p = packets.get(i);
    return new int[] {p.from, p.to, p.born, p.lane, p.at, p.came, p.hops, p.done, p.entered, p.out, p.left}[what];
  }
  public int queue(int node, int lane, int d, int i) {
    if (!isNode(node) || lane < 0 || lane > 2 || !isDir(d) || lane == 0 && d != 0) return -1;
    List<Packet> l = q(node, lane, d);
    return i == -1 ? l.size() : i < 0 || i >= l.size() ? -1 : l.get(i).id;
  }
  public int next(int node, int d) { return isNode(node) && isDir(d) ? nextOf(node, d) : -1; }
  public int far(int node, int to) { return isNode(node) && isNode(to) ? farOf(node, to) : -1; }
  public int profitable(int node, int to) {
    if (!isNode(node) || !isNode(to)) return -1;
    int set = 0;
    for (int d = 0; d < 4; d++) if (isNearer(node, to, d)) set += 1 << d;
    return set;
  }
  public int way(int node, int to, int i) {
    if (!isNode(node) || !isNode(to)) return -1;
    List<Integer> ds = new ArrayList<>();
    for (int v = node; v != to; ) { int d = escapeDir(v, to); ds.add(d); v = nextOf(v, d); }
    return i == -1 ? ds.size() : i < 0 || i >= ds.size() ? -1 : ds.get(i);
  }
  public int ring(int r, int what) {
    if (r < 0 || r >= ringList().size()) return -1;
    int d = ringList().get(r)[0], held = 0, set = 0;
    for (int v : ringNodes(r)) held += q(v, 1, d).size();
    for (int v : barred.get(r)) set |= 1 << v;
    int[] all = {d, ringNodes(r).get(0), ringNodes(r).size(), held, ringNodes(r).size() * e - held,
        rule == 2 ? critical[r] : -1, owner[r], mark[r], set, entries[r], fewest[r]};
    return what < 0 || what >= all.length ? -1 : all[what];
  }
  public int ringOf(int node, int d) { return isNode(node) && isDir(d) ? ringAt(node, d) : -1; }
  public int hunger(int node, int d) { return isNode(node) && isDir(d) ? hunger[node][d] : -1; }
  public int node(int node, int what) {
    if (!isNode(node) || what < 0 || what > 5) return -1;
    int in = 0, sent = 0, got = 0, wait = 0;
    for (int[] k : NINE) in += q(node, k[0], k[1]).size();
    for (Packet p : packets) {
      if (p.from == node) { sent++; if (p.left >= 0) wait = Math.max(wait, p.left - p.born); }
      if (p.to == node && p.lane == 3) got++;
    }
    return new int[] {q(node, 0, 0).size(), in, sent, got, topHunger[node], wait}[what];
  }
  public int move(int i, int what) {
    if (what < 0 || what > 4) return -1;
    return i == -1 ? moves.size() : i < 0 || i >= moves.size() ? -1 : moves.get(i)[what];
  }
  public int link(int node, int d) { return isNode(node) && isDir(d) ? links[node][d] : -1; }
  public int trace(int p, int i) {
    if (p < 0 || p >= packets.size() || i < 0 || i >= packets.get(p).trace.size()) return -1;
    return packets.get(p).trace.get(i);
  }
  public int pair(int from, int to, int what) {
    if (!isNode(from) || !isNode(to) || what < 0 || what > 3) return -1;
    int[] r = {0, 0, 0, -1};
    for (Packet p : packets) if (p.from == from && p.to == to) {
      r[0]++;
      if (p.lane == 3) { r[1]++; r[2] += p.out; r[3] = Math.max(r[3], p.done - p.born); }
    }
    return r[what];
  }
  private TreeMap<Integer, Integer> latesMap() {
    TreeMap<Integer, Integer> m = new TreeMap<>();
    for (Packet p : packets) if (p.lane == 3) m.merge(p.done - p.born, 1, Integer::sum);
    return m;
  }
  public int late(int low, int high) {
    int n = 0;
    for (Map.Entry<Integer, Integer> x : latesMap().entrySet()) if (x.getKey() >= low && x.getKey() <= high) n += x.getValue();
    return n;
  }
  public int lates(int i, int what) {
    if (what < 0 || what > 1) return -1;
    List<Integer> keys = new ArrayList<>(latesMap().keySet());
    return i == -1 ? keys.size() : i < 0 || i >= keys.size() ? -1 : what == 0 ? keys.get(i) : latesMap().get(keys.get(i));
  }

  // ---- what can go on
  private Set<Packet> going() {
    Map<Packet, int[]> firsts = new LinkedHashMap<>();
    for (int v = 0; v < nodes(); v++) for (int[] k : NINE) {
      Packet p = firstOf(v, k[0], k[1]);
      if (p != null) firsts.put(p, new int[] {v, k[0], k[1]});
    }
    Set<Packet> on = new LinkedHashSet<>();
    for (Map.Entry<Packet, int[]> x : firsts.entrySet()) {
      Packet p = x.getKey(); int[] k = x.getValue();
      boolean can = p.to == k[0];
      for (int d = 0; d < 4; d++) can |= byAdaptive(p, k[0], d) || byEscape(p, k[0], k[1], k[2], d, false);
      if (can) on.add(p);
    }
    while (true) {
      Set<Packet> more = new LinkedHashSet<>(on);
      for (Map.Entry<Packet, int[]> x : firsts.entrySet()) {
        Packet p = x.getKey(); int v = x.getValue()[0];
        for (int d = 0; d < 4; d++) {
          if (isNearer(v, p.to, d) && on.contains(firstOf(nextOf(v, d), 2, d))) more.add(p);
          if (escapeDir(v, p.to) != d) continue;
          if (continuesBy(p, v, x.getValue()[1], x.getValue()[2], d)) {
            if (on.contains(firstOf(nextOf(v, d), 1, d))) more.add(p);
          } else {
            for (int u : ringNodes(ringAt(v, d))) if (on.contains(firstOf(u, 1, d))) more.add(p);
          }
        }
      }
      if (more.size() == on.size()) return on;
      on = more;
    }
  }
  public int goesOn(int i) {
    if (i < 0 || i >= packets.size() || packets.get(i).lane == 3) return -1;
    for (List<Packet> l : queues.values()) if (!l.isEmpty() && l.get(0).id == i) return going().contains(l.get(0)) ? 1 : 0;
    return -1;
  }
  public int stuck() {
    int n = 0;
    Set<Packet> on = going();
    for (List<Packet> l : queues.values()) if (!l.isEmpty() && !on.contains(l.get(0))) n += l.size();
    return n;
  }
  private int undelivered() { int n = 0; for (Packet p : packets) if (p.lane != 3) n++; return n; }
  public int dead() { return undelivered() > 0 && going().isEmpty() ? 1 : 0; }

  // ---- in thought: another model is told all that this one was told
  private PlainModel again() {
    PlainModel m = new PlainModel();
    for (int[] x : new ArrayList<>(log)) {
      if (x[0] == 0) m.torus(x[1], x[2], x[3], x[4], x[5], x[6]);
      if (x[0] == 1) m.send(x[1], x[2]);
      if (x[0] == 2) m.tick(x[1]);
      if (x[0] == 3) m.bound(x[1]);
    }
    return m;
  }
  public int through() {
    PlainModel m = again();
    for (int t = 0; t <= 1000; t++) { if (m.undelivered() == 0) return t; m.oneTick(); }
    return -1;
  }
  public int arrives(int from, int to) {
    PlainModel m = again();
    int p = m.send(from, to);
    if (p < 0) return -1;
    for (int t = 1; t <= 1000; t++) { m.oneTick(); if (m.packets.get(p).lane == 3) return t; }
    return -1;
  }
  public int enters(int node, int d) {
    if (!isNode(node) || !isDir(d)) return -1;
    return !barred.get(ringAt(node, d)).contains(node) && ruleOk(node, d) ? 1 : 0;
  }

  // ---- schedules: states are texts, rows are counted by a recursion that remembers
  private String tell() {
    StringBuilder s = new StringBuilder();
    for (String k : new java.util.TreeSet<>(queues.keySet())) {
      if (queues.get(k).isEmpty()) continue;
      s.append(k).append(':');
      for (Packet p : queues.get(k)) s.append(p.id).append(',');
      s.append(';');
    }
    if (rule == 2) s.append(Arrays.toString(critical));
    return s.toString();
  }
  private Map<String, Long> rowsFrom;
  private int deadEnds, mostHeld, leastFree;
  private static final class TooMany extends RuntimeException {
    private static final long serialVersionUID = 1L;
    TooMany() { super(null, null, false, false); }
  }
  private long rows() {
    String s = tell();
    if (rowsFrom.containsKey(s)) return rowsFrom.get(s);
    rowsFrom.put(s, 0L);
    if (rowsFrom.size() > 400) throw new TooMany();
    int held = 0, left = 0;
    for (Map.Entry<String, List<Packet>> x : queues.entrySet()) {
      left += x.getValue().size();
      if (x.getKey().contains("/1/")) held += x.getValue().size();
    }
    mostHeld = Math.max(mostHeld, held);
    for (int r = 0; r < critical.length; r++) leastFree = Math.min(leastFree, ring(r, 4));
    long sum = left == 0 ? 1 : 0;
    boolean any = false;
    for (int v = 0; v < nodes(); v++) for (int[] k : NINE) {
      Packet p = firstOf(v, k[0], k[1]);
      if (p == null) continue;
      if (p.to == v) {
        any = true;
        q(v, k[0], k[1]).remove(0);
        sum += rows();
        q(v, k[0], k[1]).add(0, p);
        continue;
      }
      for (int d = 0; d < 4; d++) for (int lane = 1; lane <= 2; lane++) {
        if (!(lane == 2 ? byAdaptive(p, v, d) : byEscape(p, v, k[0], k[1], d, false))) continue;
        any = true;
        int[] was = critical.clone();
        takeOver(p, v, k[0], k[1], d, lane);
        sum += rows();
        List<Packet> l = q(nextOf(v, d), lane, d);
        l.remove(l.size() - 1);
        q(v, k[0], k[1]).add(0, p);
        critical = was;
      }
    }
    if (!any && left > 0) deadEnds++;
    rowsFrom.put(s, sum % 1000003);
    return sum % 1000003;
  }
  public int schedules(int what) {
    if (what < 0 || what > 4 || undelivered() > 3) return -1;
    rowsFrom = new HashMap<>(); deadEnds = 0; mostHeld = 0; leastFree = 999;
    Map<String, List<Packet>> kept = new HashMap<>();
    for (Map.Entry<String, List<Packet>> x : queues.entrySet()) kept.put(x.getKey(), new ArrayList<>(x.getValue()));
    int[] keptCritical = critical.clone();
    int all;
    try { all = (int) rows(); } catch (TooMany x) { queues = kept; critical = keptCritical; return -1; }
    return new int[] {rowsFrom.size(), deadEnds, all, mostHeld, leastFree}[what];
  }

  // ---- one ring alone: a state is a list of texts (digits: links to go) and the node of CRITICAL
  private static final class Lone {
    final int n, e, rule;
    final Map<List<String>, Integer> steps = new LinkedHashMap<>();
    final Map<List<String>, Integer> waits = new HashMap<>();
    final Map<List<String>, Integer> colours = new HashMap<>();
    Lone(int n, int e, int rule) { this.n = n; this.e = e; this.rule = rule; }
    boolean lets(List<String> s, int v) {
      int free = e - s.get(v).length();
      return rule == 0 ? free > 0 : rule == 1 ? free > 1 : free > (s.get(n).equals("" + v) ? 1 : 0);
    }
    List<List<String>> plain(List<String> s) {
      List<List<String>> all = new ArrayList<>();
      for (int v = 0; v < n; v++) {
        if (s.get(v).isEmpty()) continue;
        int toGo = s.get(v).charAt(0) - '0', u = (v + 1) % n;
        List<String> t = new ArrayList<>(s);
        t.set(v, s.get(v).substring(1));
        if (toGo > 0) {
          if (s.get(u).length() == e) continue;
          t.set(u, s.get(u) + (toGo - 1));
          if (rule == 2 && s.get(n).equals("" + u) && t.get(u).length() == e) t.set(n, "" + v);
        }
        all.add(t);
      }
      return all;
    }
    List<List<String>> entering(List<String> s) {
      List<List<String>> all = new ArrayList<>();
      for (int v = 0; v < n; v++) for (int k = 0; k <= n - 2; k++) if (lets(s, v)) {
        List<String> t = new ArrayList<>(s);
        t.set(v, s.get(v) + k);
        all.add(t);
      }
      return all;
    }
    int packetsIn(List<String> s) { int sum = 0; for (int v = 0; v < n; v++) sum += s.get(v).length(); return sum; }
    int wait(List<String> s) {
      if (lets(s, 0)) return 0;
      Integer known = waits.get(s);
      if (known != null) return known;
      int most = 0;
      for (List<String> t : plain(s)) most = Math.max(most, 1 + wait(t));
      waits.put(s, most);
      return most;
    }
    /** Two denied states are in one circle of denied ones: a walk with its own stack, three colours. */
    boolean circleFrom(List<String> s0) {
      if (colours.containsKey(s0)) return false;
      ArrayDeque<List<String>> stack = new ArrayDeque<>();
      stack.push(s0);
      while (!stack.isEmpty()) {
        List<String> s = stack.peek();
        Integer c = colours.get(s);
        if (c != null) { stack.pop(); colours.put(s, 2); continue; }
        colours.put(s, 1);
        List<List<String>> all = plain(s);
        all.addAll(entering(s));
        for (List<String> t : all) {
          if (lets(t, 0)) continue;
          Integer ct = colours.get(t);
          if (ct == null) stack.push(t);
          else if (ct == 1) return true;
        }
      }
      return false;
    }
    int[] answers() {
      List<String> start = new ArrayList<>();
      for (int v = 0; v < n; v++) start.add("");
      start.add("0");
      steps.put(start, 0);
      ArrayDeque<List<String>> todo = new ArrayDeque<>(List.of(start));
      int[] r = {0, 0, 0, -1, 0, 0, 0, 0};
      while (!todo.isEmpty()) {
        List<String> s = todo.poll();
        List<List<String>> all = plain(s);
        int held = packetsIn(s);
        if (held == n * e) r[1]++;
        if (held > 0 && all.isEmpty()) { r[2]++; if (r[3] < 0) r[3] = steps.get(s); }
        r[4] = Math.max(r[4], held);
        if (!lets(s, 0)) r[5]++;
        all.addAll(entering(s));
        for (List<String> t : all) if (steps.putIfAbsent(t, steps.get(s) + 1) == null) todo.add(t);
      }
      r[0] = steps.size();
      for (List<String> s : steps.keySet()) {
        r[7] = Math.max(r[7], wait(s));
        if (r[6] == 0 && !lets(s, 0) && circleFrom(s)) r[6] = 1;
      }
      return r;
    }
  }
  private static final Map<String, int[]> LONE = new HashMap<>();
  public int alone(int n, int e, int rule, int what) {
    boolean shape = (n == 2 || n == 3) && e >= 1 && e <= 3 || n == 4 && e == 1;
    if (!shape || rule < 0 || rule > 2 || what < 0 || what > 7) return -1;
    return LONE.computeIfAbsent(n + "," + e + "," + rule, x -> new Lone(n, e, rule).answers())[what];
  }

  public int look(int what) {
    if (what < 0 || what > 19) return -10;
    int[] lane = new int[4];
    int late = 0, hops = 0, out = 0, marks = 0;
    for (Packet p : packets) {
      lane[p.lane]++;
      hops += p.hops;
      out += p.out;
      if (p.lane == 3) late += p.done - p.born;
    }
    for (int o : owner) if (o >= 0) marks++;
    return new int[] {w, h, e, a, rule, bound, tick, packets.size(), lane[3], lane[0], lane[1], lane[2], late, hops,
        adaptiveHops, marksEver, marks, state, out, lost}[what];
  }
}

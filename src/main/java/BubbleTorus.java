import java.util.Arrays;

/**
 * A torus of nodes whose packets enter a ring only where it keeps a place free.
 * The document (../shared/DOC.md) says in 33 promises what each call answers; its words in capitals
 * are the names used here.
 */
public final class BubbleTorus {
    public static final int NONE = -1;

    private static final int DIRECTIONS = 4;
    private static final int MOST_NODES = 16;
    private static final int MOST_RINGS = 16;
    private static final int MOST_LINKS = MOST_NODES * DIRECTIONS;
    private static final int MOST_PACKETS = 250;
    private static final int MOST_THOUGHT_TICKS = 1000;

    // The queues of one node stand side by side: its door, four escape ones, four adaptive ones.
    private static final int QUEUES = 9;
    private static final int ESCAPES = 1;
    private static final int ADAPTIVES = 5;
    private static final int MOST_QUEUES = MOST_NODES * QUEUES;
    private static final int DOOR_PLACES = 6;

    // Where a packet is; the middle two are the numbers of the lanes, too.
    private static final int IN_DOOR = 0;
    private static final int ESCAPE = 1;
    private static final int ADAPTIVE = 2;
    private static final int DELIVERED = 3;

    private static final int RULE_TWO_PLACES = 1;
    private static final int RULE_CRITICAL = 2;

    private final Net net = new Net();
    private final Net thought = new Net();
    private final Grid grid = net.grid;
    private final Outlook outlook = new Outlook();
    private final Search search = new Search();
    private final LoneRing loneRing = new LoneRing();
    private int drawState = 0;

    public BubbleTorus() {
        net.begin(2, 1, RULE_TWO_PLACES, 8);
    }

    public boolean torus(int w, int h, int e, int a, int rule, int bound) {
        if (!within(w, 2, 4) || !within(h, 2, 4) || !within(e, 1, 4) || !within(a, 0, 3)) {
            return false;
        }
        if (!within(rule, 0, 2) || !isBound(bound) || (rule == RULE_TWO_PLACES && e < 2)) {
            return false;
        }
        grid.lay(w, h);
        net.begin(e, a, rule, bound);
        return true;
    }

    public int send(int from, int to) {
        return net.admit(from, to);
    }

    public int shower(int n) {
        if (!within(n, 1, 60)) {
            return NONE;
        }
        int sent = 0;
        for (int i = 0; i < n; i++) {
            int from = draw(grid.nodes);
            int to = draw(grid.nodes - 1);
            if (to >= from) {
                to++;
            }
            sent += net.admitOrLose(from, to);
        }
        return sent;
    }

    public int pattern(int kind, int node) {
        if (!within(kind, 0, 4) || (kind == 4 && !grid.hasNode(node))) {
            return NONE;
        }
        int sent = 0;
        for (int v = 0; v < grid.nodes; v++) {
            int to = kind == 4 ? node : grid.aimOf(kind, v);
            if (to != v) {
                sent += net.admitOrLose(v, to);
            }
        }
        return sent;
    }

    public int tick(int n) {
        if (!within(n, 1, 100)) {
            return NONE;
        }
        int delivered = 0;
        for (int i = 0; i < n; i++) {
            delivered += net.runTick();
        }
        return delivered;
    }

    public int state(int v) {
        int was = drawState;
        drawState = v;
        return was;
    }

    public boolean bound(int v) {
        if (!isBound(v)) {
            return false;
        }
        net.limit = v;
        return true;
    }

    public int packet(int packet, int what) {
        return net.packets.has(packet) ? net.packets.fact(packet, what) : NONE;
    }

    public int queue(int node, int lane, int d, int i) {
        if (!grid.hasNode(node) || !isDirection(d) || !within(lane, IN_DOOR, ADAPTIVE)) {
            return NONE;
        }
        if (lane == IN_DOOR && d != 0) {
            return NONE;
        }
        int q = node * QUEUES + (lane == IN_DOOR ? 0 : firstOfLane(lane) + d);
        return i == NONE ? net.queues.sizes[q] : net.queues.itemAt(q, i);
    }

    public int next(int node, int d) {
        return grid.hasNode(node) && isDirection(d) ? grid.nextBy(node, d) : NONE;
    }

    public int far(int node, int to) {
        return grid.hasNode(node) && grid.hasNode(to) ? grid.distance(node, to) : NONE;
    }

    public int profitable(int node, int to) {
        return grid.hasNode(node) && grid.hasNode(to) ? grid.nearerBy(node, to) : NONE;
    }

    public int way(int node, int to, int i) {
        if (!grid.hasNode(node) || !grid.hasNode(to)) {
            return NONE;
        }
        return i == NONE ? grid.distance(node, to) : grid.wayStep(node, to, i);
    }

    public int ring(int ring, int what) {
        if (ring < 0 || ring >= grid.rings) {
            return NONE;
        }
        switch (what) {
            case 0: return grid.ringDirection(ring);
            case 1: return grid.ringNode(ring, 0);
            case 2: return grid.ringLength(ring);
            case 3: return net.heldIn(ring);
            case 4: return net.freeIn(ring);
            case 5: return net.rule == RULE_CRITICAL ? net.rings.critical[ring] : NONE;
            case 6: return net.rings.owner[ring];
            case 7: return net.rings.mark[ring];
            case 8: return net.rings.barred[ring];
            case 9: return net.rings.entries[ring];
            case 10: return net.rings.fewest[ring];
            default: return NONE;
        }
    }

    public int ringOf(int node, int d) {
        return grid.hasNode(node) && isDirection(d) ? grid.ringIndex(node, d) : NONE;
    }

    public int hunger(int node, int d) {
        return grid.hasNode(node) && isDirection(d) ? net.rings.hungers[node * DIRECTIONS + d] : NONE;
    }

    public int node(int node, int what) {
        if (!grid.hasNode(node)) {
            return NONE;
        }
        switch (what) {
            case 0: return net.queues.sizes[node * QUEUES];
            case 1: return net.queues.heldFrom(node * QUEUES, QUEUES);
            case 2: return net.packets.sentFrom(node);
            case 3: return net.packets.deliveredTo(node);
            case 4: return net.rings.topHunger[node];
            case 5: return net.packets.longestAtDoor(node);
            default: return NONE;
        }
    }

    public int move(int i, int what) {
        if (!within(what, 0, Moves.FIELDS - 1)) {
            return NONE;
        }
        return i == NONE ? net.moves.count : net.moves.fact(i, what);
    }

    public int link(int node, int d) {
        return grid.hasNode(node) && isDirection(d) ? net.links[node * DIRECTIONS + d] : NONE;
    }

    public int trace(int packet, int i) {
        return net.packets.has(packet) ? net.packets.nodeBehind(packet, i) : NONE;
    }

    public int pair(int from, int to, int what) {
        if (!grid.hasNode(from) || !grid.hasNode(to)) {
            return NONE;
        }
        switch (what) {
            case 0: return net.packets.sentBetween(from, to);
            case 1: return net.packets.deliveredBetween(from, to);
            case 2: return net.packets.disorderBetween(from, to);
            case 3: return net.packets.latestBetween(from, to);
            default: return NONE;
        }
    }

    public int late(int low, int high) {
        return net.packets.lateWithin(low, high);
    }

    public int lates(int i, int what) {
        if (!within(what, 0, 1)) {
            return NONE;
        }
        if (i == NONE) {
            return net.packets.differentLates();
        }
        int value = net.packets.lateAt(i);
        if (value == NONE) {
            return NONE;
        }
        return what == 0 ? value : net.packets.lateWithin(value, value);
    }

    public int goesOn(int packet) {
        if (!net.packets.has(packet) || net.packets.isDelivered(packet)) {
            return NONE;
        }
        int q = net.queueOf(packet);
        if (net.queues.first(q) != packet) {
            return NONE;
        }
        outlook.judge(net);
        return outlook.goesOn[q] ? 1 : 0;
    }

    public int stuck() {
        outlook.judge(net);
        return outlook.held(net);
    }

    public int dead() {
        if (net.packets.left() == 0) {
            return 0;
        }
        outlook.judge(net);
        return outlook.anyGoesOn() ? 0 : 1;
    }

    public int through() {
        thought.copyFrom(net);
        return ticksUntilDelivered(NONE);
    }

    public int arrives(int from, int to) {
        thought.copyFrom(net);
        int extra = thought.admit(from, to);
        return extra == NONE ? NONE : ticksUntilDelivered(extra);
    }

    public int enters(int node, int d) {
        if (!grid.hasNode(node) || !isDirection(d)) {
            return NONE;
        }
        return net.ruleLets(node, d) && !net.isBarred(node, d) ? 1 : 0;
    }

    public int schedules(int what) {
        if (!within(what, 0, Search.ANSWERS - 1)) {
            return NONE;
        }
        thought.copyFrom(net);
        return search.run(thought) ? search.answers[what] : NONE;
    }

    public int alone(int n, int e, int rule, int what) {
        return loneRing.answer(n, e, rule, what);
    }

    public int look(int what) {
        switch (what) {
            case 0: return grid.columns;
            case 1: return grid.rows;
            case 2: return net.escapePlaces;
            case 3: return net.adaptivePlaces;
            case 4: return net.rule;
            case 5: return net.limit;
            case 6: return net.clock;
            case 7: return net.packets.count;
            case 8: return net.packets.delivered;
            case 9: return net.heldInLane(IN_DOOR);
            case 10: return net.heldInLane(ESCAPE);
            case 11: return net.heldInLane(ADAPTIVE);
            case 12: return net.packets.lateTogether();
            case 13: return net.packets.hopsTogether();
            case 14: return net.adaptiveHops;
            case 15: return net.rings.marksEver;
            case 16: return net.rings.marksNow();
            case 17: return drawState;
            case 18: return net.packets.disorderTogether();
            case 19: return net.lost;
            default: return NONE - 9;
        }
    }

    private int draw(int m) {
        drawState = drawState * 1664525 + 1013904223;
        return m > 0 ? (drawState >>> 8) % m : 0;
    }

    /** Runs the thought until one packet (NONE: every one) is delivered: how many ticks; NONE if not by then. */
    private int ticksUntilDelivered(int packet) {
        int idle = 0;
        for (int ticks = 0; ticks <= MOST_THOUGHT_TICKS; ticks++) {
            if (packet == NONE ? thought.packets.left() == 0 : thought.packets.isDelivered(packet)) {
                return ticks;
            }
            // One idle tick may still end a mark and so let go what it barred. Behind two, the hungry are
            // the same for good, so no mark ends any more, and all later ticks are idle, too.
            if (idle == 2) {
                return NONE;
            }
            int done = thought.runTick();
            idle = done == 0 && thought.moves.count == 0 ? idle + 1 : 0;
        }
        return NONE;
    }

    private static boolean within(int v, int low, int high) {
        return v >= low && v <= high;
    }

    private static boolean isDirection(int d) {
        return within(d, 0, DIRECTIONS - 1);
    }

    private static boolean isBound(int v) {
        return within(v, 0, 99);
    }

    private static int firstOfLane(int lane) {
        return lane == ESCAPE ? ESCAPES : ADAPTIVES;
    }

    /** The nodes, and what follows from their number alone. */
    private static final class Grid {
        final int[] nexts = new int[MOST_LINKS];
        final int[] nearer = new int[MOST_NODES * MOST_NODES];
        final int[] escapes = new int[MOST_NODES * MOST_NODES];
        int columns = 3;
        int rows = 3;
        int nodes = 9;
        int rings = 12;

        Grid() {
            lay(columns, rows);
        }

        void lay(int w, int h) {
            if (!within(w, 2, 4) || !within(h, 2, 4)) {
                return;
            }
            columns = w;
            rows = h;
            nodes = w * h;
            rings = 2 * (w + h);
            for (int v = 0; v < nodes; v++) {
                for (int d = 0; d < DIRECTIONS; d++) {
                    nexts[v * DIRECTIONS + d] = step(v, d);
                }
            }
            for (int v = 0; v < nodes; v++) {
                for (int to = 0; to < nodes; to++) {
                    int set = directionsNearer(v, to);
                    nearer[v * MOST_NODES + to] = set;
                    escapes[v * MOST_NODES + to] = leastOf(set);
                }
            }
        }

        /** All tables follow from the two sizes. */
        void copyFrom(Grid other) {
            if (columns != other.columns || rows != other.rows) {
                lay(other.columns, other.rows);
            }
        }

        boolean hasNode(int v) {
            return v >= 0 && v < nodes;
        }

        int nextBy(int v, int d) {
            return nexts[v * DIRECTIONS + d];
        }

        int nearerBy(int v, int to) {
            return nearer[v * MOST_NODES + to];
        }

        /** The ESCAPE DIRECTION; NONE for what is in its TO. */
        int escapeBy(int v, int to) {
            return escapes[v * MOST_NODES + to];
        }

        int distance(int v, int to) {
            return gap(v % columns, to % columns, columns) + gap(v / columns, to / columns, rows);
        }

        int wayStep(int v, int to, int i) {
            int d = NONE;
            int at = v;
            if (i >= 0 && i < distance(v, to)) {
                for (int k = 0; k <= i; k++) {
                    d = escapeBy(at, to);
                    at = d == NONE ? at : nextBy(at, d);
                }
            }
            return d;
        }

        int ringIndex(int v, int d) {
            int column = v % columns;
            int row = v / columns;
            switch (d) {
                case 0: return row;
                case 1: return rows + row;
                case 2: return 2 * rows + column;
                default: return 2 * rows + columns + column;
            }
        }

        int ringDirection(int r) {
            if (r < 2 * rows) {
                return r < rows ? 0 : 1;
            }
            return r < 2 * rows + columns ? 2 : 3;
        }

        int ringLength(int r) {
            return r < 2 * rows ? columns : rows;
        }

        /** The i-th node of a ring, rising from its least one. */
        int ringNode(int r, int i) {
            if (r < 2 * rows) {
                return (r < rows ? r : r - rows) * columns + i;
            }
            int column = r - 2 * rows;
            return i * columns + (column < columns ? column : column - columns);
        }

        /** Which node of its ring (of direction d) a node is: the i of ringNode. */
        int placeInRing(int v, int d) {
            return d < 2 ? v % columns : v / columns;
        }

        /** To which node a node sends in the patterns 0 to 3. */
        int aimOf(int kind, int v) {
            int column = v % columns;
            int row = v / columns;
            switch (kind) {
                case 0: return (row + rows / 2) % rows * columns + (column + columns / 2) % columns;
                case 1: return nodes - 1 - v;
                case 2: return column % rows * columns + row % columns;
                default: return nextBy(v, 0);
            }
        }

        private int step(int v, int d) {
            int column = v % columns;
            int row = v / columns;
            switch (d) {
                case 0: return row * columns + (column + 1) % columns;
                case 1: return row * columns + (column + columns - 1) % columns;
                case 2: return (row + 1) % rows * columns + column;
                default: return (row + rows - 1) % rows * columns + column;
            }
        }

        private int directionsNearer(int v, int to) {
            int set = 0;
            for (int d = 0; d < DIRECTIONS; d++) {
                if (distance(step(v, d), to) < distance(v, to)) {
                    set |= 1 << d;
                }
            }
            return set;
        }

        /** Directions are numbered axis by axis, so the least of a set is on the earliest axis, too. */
        private static int leastOf(int set) {
            for (int d = 0; d < DIRECTIONS; d++) {
                if ((set >> d & 1) == 1) {
                    return d;
                }
            }
            return NONE;
        }

        private static int gap(int a, int b, int size) {
            int apart = Math.abs(a - b);
            return Math.min(apart, size - apart);
        }
    }

    /** Rows of packets, first in, first out; queue k of node v is queue v * QUEUES + k. */
    private static final class Queues {
        final int[] sizes = new int[MOST_QUEUES];
        final int[] items = new int[MOST_QUEUES * DOOR_PLACES];

        void clearAll() {
            Arrays.fill(sizes, 0);
        }

        void copyFrom(Queues other) {
            System.arraycopy(other.sizes, 0, sizes, 0, MOST_QUEUES);
            System.arraycopy(other.items, 0, items, 0, MOST_QUEUES * DOOR_PLACES);
        }

        int first(int q) {
            return sizes[q] > 0 ? items[q * DOOR_PLACES] : NONE;
        }

        int itemAt(int q, int i) {
            return i >= 0 && i < sizes[q] ? items[q * DOOR_PLACES + i] : NONE;
        }

        int placeOf(int q, int packet) {
            for (int i = 0; i < sizes[q]; i++) {
                if (items[q * DOOR_PLACES + i] == packet) {
                    return i;
                }
            }
            return NONE;
        }

        void put(int q, int packet) {
            if (sizes[q] < DOOR_PLACES) {
                items[q * DOOR_PLACES + sizes[q]] = packet;
                sizes[q]++;
            }
        }

        void dropFirst(int q) {
            if (sizes[q] > 0) {
                sizes[q]--;
                int start = q * DOOR_PLACES;
                for (int i = 0; i < sizes[q]; i++) {
                    items[start + i] = items[start + i + 1];
                }
            }
        }

        int heldFrom(int q, int howMany) {
            int held = 0;
            for (int i = 0; i < howMany; i++) {
                held += sizes[q + i];
            }
            return held;
        }
    }

    /** What is known of each packet, delivered ones too. */
    private static final class Packets {
        // A way is never longer than four links: each going brings a packet nearer.
        static final int TRACE_PLACES = 5;

        final int[] from = new int[MOST_PACKETS];
        final int[] to = new int[MOST_PACKETS];
        final int[] born = new int[MOST_PACKETS];
        final int[] lane = new int[MOST_PACKETS];
        final int[] at = new int[MOST_PACKETS];
        final int[] cameBy = new int[MOST_PACKETS];
        final int[] hops = new int[MOST_PACKETS];
        final int[] done = new int[MOST_PACKETS];
        final int[] entered = new int[MOST_PACKETS];
        final int[] disorder = new int[MOST_PACKETS];
        final int[] leftDoor = new int[MOST_PACKETS];
        final int[] lastWent = new int[MOST_PACKETS];
        final int[] traces = new int[MOST_PACKETS * TRACE_PLACES];
        int count = 0;
        int delivered = 0;

        void clearAll() {
            count = 0;
            delivered = 0;
        }

        void copyFrom(Packets other) {
            count = other.count;
            delivered = other.delivered;
            copyRow(other.from, from);
            copyRow(other.to, to);
            copyRow(other.born, born);
            copyRow(other.lane, lane);
            copyRow(other.at, at);
            copyRow(other.cameBy, cameBy);
            copyRow(other.hops, hops);
            copyRow(other.done, done);
            copyRow(other.entered, entered);
            copyRow(other.disorder, disorder);
            copyRow(other.leftDoor, leftDoor);
            copyRow(other.lastWent, lastWent);
            System.arraycopy(other.traces, 0, traces, 0, count * TRACE_PLACES);
        }

        private void copyRow(int[] source, int[] target) {
            System.arraycopy(source, 0, target, 0, count);
        }

        boolean has(int p) {
            return p >= 0 && p < count;
        }

        boolean isDelivered(int p) {
            return lane[p] == DELIVERED;
        }

        int left() {
            return count - delivered;
        }

        /** A new packet in the door of its FROM; the caller has seen that there is room. */
        int add(int source, int target, int tick) {
            int p = count;
            count++;
            from[p] = source;
            to[p] = target;
            born[p] = tick;
            lane[p] = IN_DOOR;
            at[p] = source;
            cameBy[p] = NONE;
            hops[p] = 0;
            done[p] = NONE;
            entered[p] = 0;
            disorder[p] = 0;
            leftDoor[p] = NONE;
            lastWent[p] = NONE;
            traces[p * TRACE_PLACES] = source;
            return p;
        }

        void noteHop(int p, int target, int d, int byLane, int tick) {
            if (lane[p] == IN_DOOR) {
                leftDoor[p] = tick;
            }
            lane[p] = byLane;
            at[p] = target;
            cameBy[p] = d;
            lastWent[p] = tick;
            hops[p]++;
            if (hops[p] < TRACE_PLACES) {
                traces[p * TRACE_PLACES + hops[p]] = target;
            }
        }

        void noteDelivery(int p, int tick) {
            disorder[p] = laterIsDelivered(p) ? 1 : 0;
            lane[p] = DELIVERED;
            done[p] = tick;
            delivered++;
        }

        private boolean laterIsDelivered(int p) {
            for (int i = p + 1; i < count; i++) {
                if (isBetween(i, from[p], to[p]) && isDelivered(i)) {
                    return true;
                }
            }
            return false;
        }

        private boolean isBetween(int p, int source, int target) {
            return from[p] == source && to[p] == target;
        }

        int fact(int p, int what) {
            switch (what) {
                case 0: return from[p];
                case 1: return to[p];
                case 2: return born[p];
                case 3: return lane[p];
                case 4: return at[p];
                case 5: return cameBy[p];
                case 6: return hops[p];
                case 7: return done[p];
                case 8: return entered[p];
                case 9: return disorder[p];
                case 10: return leftDoor[p];
                default: return NONE;
            }
        }

        int nodeBehind(int p, int i) {
            return i >= 0 && i <= hops[p] && i < TRACE_PLACES ? traces[p * TRACE_PLACES + i] : NONE;
        }

        int sentFrom(int v) {
            int sent = 0;
            for (int p = 0; p < count; p++) {
                if (from[p] == v) {
                    sent++;
                }
            }
            return sent;
        }

        int deliveredTo(int v) {
            int arrived = 0;
            for (int p = 0; p < count; p++) {
                if (to[p] == v && isDelivered(p)) {
                    arrived++;
                }
            }
            return arrived;
        }

        int longestAtDoor(int v) {
            int longest = 0;
            for (int p = 0; p < count; p++) {
                if (from[p] == v && leftDoor[p] != NONE) {
                    longest = Math.max(longest, leftDoor[p] - born[p]);
                }
            }
            return longest;
        }

        int sentBetween(int source, int target) {
            int sent = 0;
            for (int p = 0; p < count; p++) {
                if (isBetween(p, source, target)) {
                    sent++;
                }
            }
            return sent;
        }

        int deliveredBetween(int source, int target) {
            int arrived = 0;
            for (int p = 0; p < count; p++) {
                if (isBetween(p, source, target) && isDelivered(p)) {
                    arrived++;
                }
            }
            return arrived;
        }

        int disorderBetween(int source, int target) {
            int several = 0;
            for (int p = 0; p < count; p++) {
                if (isBetween(p, source, target)) {
                    several += disorder[p];
                }
            }
            return several;
        }

        int latestBetween(int source, int target) {
            int latest = NONE;
            for (int p = 0; p < count; p++) {
                if (isBetween(p, source, target) && isDelivered(p)) {
                    latest = Math.max(latest, lateness(p));
                }
            }
            return latest;
        }

        private int lateness(int p) {
            return done[p] - born[p];
        }

        int lateWithin(int low, int high) {
            int several = 0;
            for (int p = 0; p < count; p++) {
                if (isDelivered(p) && lateness(p) >= low && lateness(p) <= high) {
                    several++;
                }
            }
            return several;
        }

        /** The least LATE there was above a given one; NONE if there is none. */
        private int lateAbove(int low) {
            int least = NONE;
            for (int p = 0; p < count; p++) {
                if (isDelivered(p) && lateness(p) > low && (least == NONE || lateness(p) < least)) {
                    least = lateness(p);
                }
            }
            return least;
        }

        int differentLates() {
            int several = 0;
            int value = lateAbove(NONE);
            while (value != NONE && several < MOST_PACKETS) {
                several++;
                value = lateAbove(value);
            }
            return several;
        }

        int lateAt(int i) {
            if (i < 0 || i >= count) {
                return NONE;
            }
            int value = lateAbove(NONE);
            for (int k = 0; k < i && value != NONE; k++) {
                value = lateAbove(value);
            }
            return value;
        }

        int lateTogether() {
            int sum = 0;
            for (int p = 0; p < count; p++) {
                if (isDelivered(p)) {
                    sum += lateness(p);
                }
            }
            return sum;
        }

        int hopsTogether() {
            int sum = 0;
            for (int p = 0; p < count; p++) {
                sum += hops[p];
            }
            return sum;
        }

        int disorderTogether() {
            int sum = 0;
            for (int p = 0; p < count; p++) {
                sum += disorder[p];
            }
            return sum;
        }
    }

    /** What went in the latest tick, in turn. */
    private static final class Moves {
        static final int FIELDS = 5;

        final int[] facts = new int[MOST_LINKS * FIELDS];
        int count = 0;

        void copyFrom(Moves other) {
            count = other.count;
            System.arraycopy(other.facts, 0, facts, 0, count * FIELDS);
        }

        void add(int packet, int from, int d, int lane, int how) {
            if (count >= MOST_LINKS) {
                return;
            }
            int start = count * FIELDS;
            facts[start] = packet;
            facts[start + 1] = from;
            facts[start + 2] = d;
            facts[start + 3] = lane;
            facts[start + 4] = how;
            count++;
        }

        int fact(int i, int what) {
            return i >= 0 && i < count && within(what, 0, FIELDS - 1) ? facts[i * FIELDS + what] : NONE;
        }
    }

    /** What belongs to the rings, and the hunger of the nodes for them. */
    private static final class Rings {
        static final int MOST_HUNGER = 999;

        final int[] critical = new int[MOST_RINGS];
        final int[] owner = new int[MOST_RINGS];
        final int[] mark = new int[MOST_RINGS];
        final int[] barred = new int[MOST_RINGS];
        final int[] entries = new int[MOST_RINGS];
        final int[] fewest = new int[MOST_RINGS];
        final int[] hungers = new int[MOST_LINKS];
        final int[] topHunger = new int[MOST_NODES];
        final boolean[] enteredNow = new boolean[MOST_LINKS];
        int marksEver = 0;

        void clearAll(Grid grid, int escapePlaces) {
            Arrays.fill(owner, NONE);
            Arrays.fill(mark, NONE);
            Arrays.fill(barred, 0);
            Arrays.fill(entries, 0);
            Arrays.fill(hungers, 0);
            Arrays.fill(topHunger, 0);
            marksEver = 0;
            for (int r = 0; r < grid.rings; r++) {
                critical[r] = grid.ringNode(r, 0);
                fewest[r] = grid.ringLength(r) * escapePlaces;
            }
            forgetEntries();
        }

        void copyFrom(Rings other) {
            System.arraycopy(other.critical, 0, critical, 0, MOST_RINGS);
            System.arraycopy(other.owner, 0, owner, 0, MOST_RINGS);
            System.arraycopy(other.mark, 0, mark, 0, MOST_RINGS);
            System.arraycopy(other.barred, 0, barred, 0, MOST_RINGS);
            System.arraycopy(other.entries, 0, entries, 0, MOST_RINGS);
            System.arraycopy(other.fewest, 0, fewest, 0, MOST_RINGS);
            System.arraycopy(other.hungers, 0, hungers, 0, MOST_LINKS);
            System.arraycopy(other.topHunger, 0, topHunger, 0, MOST_NODES);
            System.arraycopy(other.enteredNow, 0, enteredNow, 0, MOST_LINKS);
            marksEver = other.marksEver;
        }

        void forgetEntries() {
            for (int i = 0; i < MOST_LINKS; i++) {
                enteredNow[i] = false;
            }
        }

        void noteHunger(int v, int d, boolean hungry) {
            int i = v * DIRECTIONS + d;
            hungers[i] = hungry ? Math.min(hungers[i] + 1, MOST_HUNGER) : 0;
            topHunger[v] = Math.max(topHunger[v], hungers[i]);
        }

        void setMark(int r, int v) {
            owner[r] = v;
            mark[r] = v;
            marksEver++;
        }

        void carryMark(int r, int v) {
            mark[r] = v;
            if (v != owner[r]) {
                barred[r] |= 1 << v;
            }
        }

        void endMark(int r) {
            owner[r] = NONE;
            mark[r] = NONE;
            barred[r] = 0;
        }

        int marksNow() {
            int several = 0;
            for (int r = 0; r < MOST_RINGS; r++) {
                if (owner[r] != NONE) {
                    several++;
                }
            }
            return several;
        }
    }

    /** A torus as it is: it can be copied, and its ticks run, without the one that it was copied from. */
    private static final class Net {
        final Grid grid = new Grid();
        final Packets packets = new Packets();
        final Queues queues = new Queues();
        final Moves moves = new Moves();
        final Rings rings = new Rings();
        final int[] links = new int[MOST_LINKS];
        int escapePlaces = 1;
        int adaptivePlaces = 0;
        int rule = 0;
        int limit = 0;
        int clock = 0;
        int adaptiveHops = 0;
        int lost = 0;

        void begin(int e, int a, int newRule, int bound) {
            escapePlaces = e;
            adaptivePlaces = a;
            rule = newRule;
            limit = bound;
            clock = 0;
            adaptiveHops = 0;
            lost = 0;
            moves.count = 0;
            packets.clearAll();
            queues.clearAll();
            rings.clearAll(grid, e);
            Arrays.fill(links, 0);
        }

        void copyFrom(Net other) {
            grid.copyFrom(other.grid);
            escapePlaces = other.escapePlaces;
            adaptivePlaces = other.adaptivePlaces;
            rule = other.rule;
            limit = other.limit;
            clock = other.clock;
            adaptiveHops = other.adaptiveHops;
            lost = other.lost;
            moves.copyFrom(other.moves);
            packets.copyFrom(other.packets);
            queues.copyFrom(other.queues);
            rings.copyFrom(other.rings);
            System.arraycopy(other.links, 0, links, 0, MOST_LINKS);
        }

        /** Sends a packet: its number, or NONE if that can't be. */
        int admit(int from, int to) {
            if (!grid.hasNode(from) || !grid.hasNode(to) || from == to) {
                return NONE;
            }
            int door = from * QUEUES;
            if (packets.count >= MOST_PACKETS || queues.sizes[door] >= DOOR_PLACES) {
                return NONE;
            }
            int p = packets.add(from, to, clock);
            queues.put(door, p);
            return p;
        }

        int admitOrLose(int from, int to) {
            if (admit(from, to) != NONE) {
                return 1;
            }
            lost++;
            return 0;
        }

        /** One tick, (a) to (d) of the document: how many were delivered. */
        int runTick() {
            moves.count = 0;
            rings.forgetEntries();
            int done = deliverFirsts();
            for (int i = 0; i < grid.nodes; i++) {
                int v = (clock % grid.nodes + i) % grid.nodes;
                for (int d = 0; d < DIRECTIONS; d++) {
                    int k = chosenQueue(v, d);
                    if (k != NONE) {
                        goFrom(v, k, d);
                    }
                }
            }
            feelHunger();
            if (limit > 0) {
                turnMarks();
            }
            noteFewest();
            clock++;
            return done;
        }

        private int deliverFirsts() {
            int done = 0;
            for (int v = 0; v < grid.nodes; v++) {
                for (int k = ESCAPES; k < QUEUES; k++) {
                    int p = queues.first(v * QUEUES + k);
                    if (p != NONE && packets.to[p] == v) {
                        queues.dropFirst(v * QUEUES + k);
                        packets.noteDelivery(p, clock);
                        done++;
                    }
                }
            }
            return done;
        }

        /** Of which queue of a node the first packet goes by a direction now; NONE if none does. */
        private int chosenQueue(int v, int d) {
            int chosen = NONE;
            int best = NONE;
            for (int k = 0; k < QUEUES; k++) {
                int p = queues.first(v * QUEUES + k);
                if (p == NONE || packets.lastWent[p] == clock || !canGo(v, k, d)) {
                    continue;
                }
                if (continues(v, k, d)) {
                    return k;
                }
                // Packets are numbered as they are born: the least number is of the eldest, too.
                if (best == NONE || p < best) {
                    best = p;
                    chosen = k;
                }
            }
            return chosen;
        }

        private boolean canGo(int v, int k, int d) {
            if (adaptiveLets(v, k, d)) {
                return true;
            }
            return escapeLets(v, k, d) && (continues(v, k, d) || !isBarred(v, d));
        }

        /** Whether the first packet of queue k of a node continues in the ring of direction d. */
        boolean continues(int v, int k, int d) {
            return k == ESCAPES + d && isEscape(v, k, d);
        }

        boolean isEscape(int v, int k, int d) {
            int p = queues.first(v * QUEUES + k);
            return p != NONE && grid.escapeBy(v, packets.to[p]) == d;
        }

        boolean isProfitable(int v, int k, int d) {
            int p = queues.first(v * QUEUES + k);
            return p != NONE && (grid.nearerBy(v, packets.to[p]) >> d & 1) == 1;
        }

        boolean isInTo(int v, int k) {
            int p = queues.first(v * QUEUES + k);
            return p != NONE && packets.to[p] == v;
        }

        boolean adaptiveLets(int v, int k, int d) {
            return isProfitable(v, k, d)
                && queues.sizes[grid.nextBy(v, d) * QUEUES + ADAPTIVES + d] < adaptivePlaces;
        }

        /** Whether the first packet of a queue can go by escape, were nobody barred. */
        boolean escapeLets(int v, int k, int d) {
            if (!isEscape(v, k, d)) {
                return false;
            }
            return k == ESCAPES + d ? freeAhead(v, d) > 0 : ruleLets(v, d);
        }

        /** How many places of the escape queue at the next node are free. */
        private int freeAhead(int v, int d) {
            return escapePlaces - queues.sizes[grid.nexts[v * DIRECTIONS + d] * QUEUES + ESCAPES + d];
        }

        boolean ruleLets(int v, int d) {
            boolean twoNeeded = rule == RULE_TWO_PLACES
                || (rule == RULE_CRITICAL && rings.critical[grid.ringIndex(v, d)] == grid.nextBy(v, d));
            return freeAhead(v, d) >= (twoNeeded ? 2 : 1);
        }

        boolean isBarred(int v, int d) {
            return (rings.barred[grid.ringIndex(v, d)] >> v & 1) == 1;
        }

        private void goFrom(int v, int k, int d) {
            int p = queues.first(v * QUEUES + k);
            if (p == NONE) {
                return;
            }
            int lane = adaptiveLets(v, k, d) ? ADAPTIVE : ESCAPE;
            int how = 0;
            if (lane == ADAPTIVE) {
                adaptiveHops++;
            } else if (continues(v, k, d)) {
                how = 2;
            } else {
                how = 1;
                packets.entered[p]++;
                rings.entries[grid.ringIndex(v, d)]++;
                rings.enteredNow[v * DIRECTIONS + d] = true;
            }
            shift(v, k, d, lane);
            links[v * DIRECTIONS + d]++;
            packets.noteHop(p, grid.nextBy(v, d), d, lane, clock);
            moves.add(p, v, d, lane, how);
        }

        /** Brings the first packet of a queue to the next node, and with it CRITICAL, if that moves. */
        void shift(int v, int k, int d, int lane) {
            boolean takesInRing = lane == ESCAPE && continues(v, k, d);
            int p = queues.first(v * QUEUES + k);
            int to = grid.nextBy(v, d);
            queues.dropFirst(v * QUEUES + k);
            queues.put(to * QUEUES + firstOfLane(lane) + d, p);
            int r = grid.ringIndex(v, d);
            if (takesInRing && rule == RULE_CRITICAL && rings.critical[r] == to && freeAhead(v, d) == 0) {
                rings.critical[r] = v;
            }
        }

        private void feelHunger() {
            for (int v = 0; v < grid.nodes; v++) {
                for (int d = 0; d < DIRECTIONS; d++) {
                    rings.noteHunger(v, d, wantsIn(v, d) && !rings.enteredNow[v * DIRECTIONS + d]);
                }
            }
        }

        private boolean wantsIn(int v, int d) {
            for (int k = 0; k < QUEUES; k++) {
                if (k != ESCAPES + d && isEscape(v, k, d)) {
                    return true;
                }
            }
            return false;
        }

        private void turnMarks() {
            for (int r = 0; r < grid.rings; r++) {
                int d = grid.ringDirection(r);
                int owner = rings.owner[r];
                if (owner != NONE && rings.hungers[owner * DIRECTIONS + d] > 0) {
                    rings.carryMark(r, grid.nextBy(rings.mark[r], d));
                    continue;
                }
                if (owner != NONE) {
                    rings.endMark(r);
                }
                int hungriest = hungriestIn(r, d);
                if (hungriest != NONE) {
                    rings.setMark(r, hungriest);
                }
            }
        }

        private int hungriestIn(int r, int d) {
            int hungriest = NONE;
            int most = limit - 1;
            for (int i = 0; i < grid.ringLength(r); i++) {
                int v = grid.ringNode(r, i);
                if (rings.hungers[v * DIRECTIONS + d] > most) {
                    hungriest = v;
                    most = rings.hungers[v * DIRECTIONS + d];
                }
            }
            return hungriest;
        }

        private void noteFewest() {
            for (int r = 0; r < grid.rings; r++) {
                rings.fewest[r] = Math.min(rings.fewest[r], freeIn(r));
            }
        }

        int heldIn(int r) {
            int d = grid.ringDirection(r);
            int held = 0;
            for (int i = 0; i < grid.ringLength(r); i++) {
                held += queues.sizes[grid.ringNode(r, i) * QUEUES + ESCAPES + d];
            }
            return held;
        }

        int freeIn(int r) {
            return grid.ringLength(r) * escapePlaces - heldIn(r);
        }

        int heldInLane(int lane) {
            int held = 0;
            for (int v = 0; v < grid.nodes; v++) {
                if (lane == IN_DOOR) {
                    held += queues.sizes[v * QUEUES];
                } else {
                    held += queues.heldFrom(v * QUEUES + firstOfLane(lane), DIRECTIONS);
                }
            }
            return held;
        }

        /** The queue in which a packet is that is not delivered. */
        int queueOf(int p) {
            int lane = packets.lane[p];
            return packets.at[p] * QUEUES + (lane == IN_DOOR ? 0 : firstOfLane(lane) + packets.cameBy[p]);
        }
    }

    /** Which first packets of queues CAN GO ON. */
    private static final class Outlook {
        final boolean[] goesOn = new boolean[MOST_QUEUES];

        void judge(Net net) {
            for (int q = 0; q < MOST_QUEUES; q++) {
                goesOn[q] = q < net.grid.nodes * QUEUES && goesAtOnce(net, q / QUEUES, q % QUEUES);
            }
            boolean changed = true;
            for (int turn = 0; turn < MOST_QUEUES && changed; turn++) {
                changed = false;
                for (int q = 0; q < net.grid.nodes * QUEUES; q++) {
                    if (!goesOn[q] && follows(net, q / QUEUES, q % QUEUES)) {
                        goesOn[q] = true;
                        changed = true;
                    }
                }
            }
        }

        private boolean goesAtOnce(Net net, int v, int k) {
            if (net.isInTo(v, k)) {
                return true;
            }
            for (int d = 0; d < DIRECTIONS; d++) {
                if (net.adaptiveLets(v, k, d) || net.escapeLets(v, k, d)) {
                    return true;
                }
            }
            return false;
        }

        /** Whether something in the way of a first packet goes on; an empty queue never does. */
        private boolean follows(Net net, int v, int k) {
            for (int d = 0; d < DIRECTIONS; d++) {
                int ahead = net.grid.nextBy(v, d) * QUEUES;
                if (net.isProfitable(v, k, d) && goesOn[ahead + ADAPTIVES + d]) {
                    return true;
                }
                if (net.isEscape(v, k, d)
                    && (net.continues(v, k, d) ? goesOn[ahead + ESCAPES + d] : anyInRing(net.grid, v, d))) {
                    return true;
                }
            }
            return false;
        }

        private boolean anyInRing(Grid grid, int v, int d) {
            int r = grid.ringIndex(v, d);
            for (int i = 0; i < grid.ringLength(r); i++) {
                if (goesOn[grid.ringNode(r, i) * QUEUES + ESCAPES + d]) {
                    return true;
                }
            }
            return false;
        }

        boolean anyGoesOn() {
            for (int q = 0; q < MOST_QUEUES; q++) {
                if (goesOn[q]) {
                    return true;
                }
            }
            return false;
        }

        /** How many packets are in queues whose first one does not go on. */
        int held(Net net) {
            int several = 0;
            for (int q = 0; q < MOST_QUEUES; q++) {
                if (!goesOn[q]) {
                    several += net.queues.sizes[q];
                }
            }
            return several;
        }
    }

    /** SCHEDULES: all states that come by single steps of at most three packets. */
    private static final class Search {
        static final int ANSWERS = 5;
        static final int MOST_STATES = 400;
        static final int MOST_LEFT = 3;
        static final int MODULUS = 1000003;
        static final int MOST_RING_PLACES = 16;
        static final int ARRIVED = MOST_QUEUES;

        final long[] keys = new long[MOST_STATES];
        final int[] ways = new int[MOST_STATES];
        final int[] ids = new int[MOST_LEFT];
        final int[] spots = new int[MOST_LEFT];
        final int[] places = new int[MOST_LEFT];
        final int[] answers = new int[ANSWERS];
        int left = 0;
        int count = 0;
        int steps = 0;
        boolean tooMany = false;

        /** Searches a torus that it may change at will; false if there is too much to search. */
        boolean run(Net net) {
            if (net.packets.left() > MOST_LEFT) {
                return false;
            }
            findLeft(net);
            Arrays.fill(answers, 0);
            answers[4] = MOST_RING_PLACES;
            count = 0;
            tooMany = false;
            reach(net, 1);
            // Each step shortens what is still to do by one, so states come in the order of their steps, and
            // all rows that lead to a state are counted when it is extended.
            for (int s = 0; s < count && s < MOST_STATES && !tooMany; s++) {
                open(net, keys[s]);
                extend(net, s);
                weigh(net, s);
            }
            answers[0] = count;
            return !tooMany;
        }

        private void findLeft(Net net) {
            left = 0;
            Arrays.fill(spots, ARRIVED);
            for (int p = 0; p < net.packets.count && left < MOST_LEFT; p++) {
                if (!net.packets.isDelivered(p)) {
                    ids[left] = p;
                    spots[left] = net.queueOf(p);
                    left++;
                }
            }
        }

        private void extend(Net net, int s) {
            steps = 0;
            for (int i = 0; i < left; i++) {
                int q = spots[i];
                if (q == ARRIVED || net.queues.first(q) != ids[i]) {
                    continue;
                }
                if (net.isInTo(q / QUEUES, q % QUEUES)) {
                    net.queues.dropFirst(q);
                    close(net, s, i, ARRIVED);
                    continue;
                }
                for (int d = 0; d < DIRECTIONS; d++) {
                    tryBy(net, s, i, d);
                }
            }
        }

        private void tryBy(Net net, int s, int i, int d) {
            int v = spots[i] / QUEUES;
            int k = spots[i] % QUEUES;
            int ahead = net.grid.nextBy(v, d) * QUEUES + d;
            if (net.adaptiveLets(v, k, d)) {
                net.shift(v, k, d, ADAPTIVE);
                close(net, s, i, ahead + ADAPTIVES);
            }
            if (net.escapeLets(v, k, d)) {
                net.shift(v, k, d, ESCAPE);
                close(net, s, i, ahead + ESCAPES);
            }
        }

        /** Ends a step that has been done: keeps where it leads, and brings the state s back. */
        private void close(Net net, int s, int i, int spot) {
            spots[i] = spot;
            steps++;
            reach(net, ways[s]);
            open(net, keys[s]);
        }

        private void reach(Net net, int rows) {
            long key = keyOf(net);
            for (int s = 0; s < count; s++) {
                if (keys[s] == key) {
                    ways[s] = (ways[s] + rows) % MODULUS;
                    return;
                }
            }
            if (count >= MOST_STATES) {
                tooMany = true;
                return;
            }
            keys[count] = key;
            ways[count] = rows;
            count++;
        }

        /** Ten bits a packet (queue, place in it), two bits a ring (where CRITICAL is). */
        private long keyOf(Net net) {
            long key = 0;
            for (int i = 0; i < MOST_LEFT; i++) {
                int place = spots[i] == ARRIVED ? 0 : net.queues.placeOf(spots[i], ids[i]);
                key = key << 10 | spots[i] << 2 | place & 3;
            }
            for (int r = 0; r < MOST_RINGS; r++) {
                int place = 0;
                if (r < net.grid.rings) {
                    place = net.grid.placeInRing(net.rings.critical[r], net.grid.ringDirection(r));
                }
                key = key << 2 | place;
            }
            return key;
        }

        /** Brings a state back: empties the queues where the packets are now, and fills those of the key. */
        private void open(Net net, long key) {
            long rest = key;
            for (int r = MOST_RINGS - 1; r >= 0; r--) {
                if (r < net.grid.rings) {
                    net.rings.critical[r] = net.grid.ringNode(r, (int) (rest & 3));
                }
                rest >>>= 2;
            }
            for (int i = MOST_LEFT - 1; i >= 0; i--) {
                if (spots[i] != ARRIVED) {
                    net.queues.sizes[spots[i]] = 0;
                }
                places[i] = (int) (rest & 3);
                spots[i] = (int) (rest >>> 2 & 255);
                rest >>>= 10;
            }
            for (int place = 0; place < MOST_LEFT; place++) {
                for (int i = 0; i < left; i++) {
                    if (spots[i] != ARRIVED && places[i] == place) {
                        net.queues.put(spots[i], ids[i]);
                    }
                }
            }
        }

        private void weigh(Net net, int s) {
            boolean allArrived = true;
            for (int i = 0; i < left; i++) {
                allArrived = allArrived && spots[i] == ARRIVED;
            }
            if (allArrived) {
                answers[2] = (answers[2] + ways[s]) % MODULUS;
            } else if (steps == 0) {
                answers[1]++;
            }
            answers[3] = Math.max(answers[3], net.heldInLane(ESCAPE));
            for (int r = 0; r < net.grid.rings; r++) {
                answers[4] = Math.min(answers[4], net.freeIn(r));
            }
        }
    }

    /**
     * ONE RING alone, searched through. A queue is a number: its packets are digits 1 to KINDS (one more
     * than what a packet has to go), the first packet the lowest one, 0 an empty queue; this counts the
     * queues without a gap.
     */
    private static final class LoneRing {
        static final int ANSWERS = 8;
        static final int CASES = 21;
        static final int MOST_STATES = 10125;
        static final int MOST_RING_NODES = 4;

        final int[] answers = new int[CASES * ANSWERS];
        final boolean[] known = new boolean[CASES];
        final int[] queues = new int[MOST_RING_NODES];
        final int[] lengths = new int[MOST_RING_NODES];
        final int[] weights = new int[MOST_RING_NODES + 1];
        final int[] steps = new int[MOST_RING_NODES * MOST_RING_NODES];
        int[] order = null;
        int[] notes = null;
        int nodes = 2;
        int places = 1;
        int rule = 0;
        int kinds = 1;
        int critical = 0;
        int count = 0;
        int stepCount = 0;
        int plainCount = 0;

        private static boolean canBe(int n, int e) {
            return (within(n, 2, 3) && within(e, 1, 3)) || (n == 4 && e == 1);
        }

        int answer(int n, int e, int aRule, int what) {
            if (!canBe(n, e) || !within(aRule, 0, 2) || !within(what, 0, ANSWERS - 1)) {
                return NONE;
            }
            int which = ((n - 2) * 3 + e - 1) * 3 + aRule;
            if (!known[which]) {
                solve(n, e, aRule, which * ANSWERS);
                known[which] = true;
            }
            return answers[which * ANSWERS + what];
        }

        private void solve(int n, int e, int aRule, int at) {
            prepare(n, e, aRule);
            explore();
            answers[at] = count;
            answers[at + 3] = NONE;
            for (int i = 0; i < count; i++) {
                weigh(order[i], at);
            }
            answers[at + 6] = isStarving() ? 1 : 0;
            answers[at + 7] = longestWait();
        }

        private void prepare(int n, int e, int aRule) {
            if (order == null || notes == null) {
                order = new int[MOST_STATES];
                notes = new int[MOST_STATES];
            }
            nodes = n;
            places = e;
            rule = aRule;
            kinds = n - 1;
            int codes = 1;
            for (int i = 0; i < e; i++) {
                codes = codes * kinds + 1;
            }
            weights[0] = 1;
            for (int i = 0; i < n; i++) {
                weights[i + 1] = weights[i] * codes;
            }
        }

        /** Finds all states in the order of their fewest steps, which stand in the notes then. */
        private void explore() {
            Arrays.fill(notes, NONE);
            order[0] = 0;
            notes[0] = 0;
            count = 1;
            for (int i = 0; i < count && i < MOST_STATES; i++) {
                int s = order[i];
                open(s);
                listSteps(s);
                for (int k = 0; k < stepCount; k++) {
                    if (notes[steps[k]] == NONE && count < MOST_STATES) {
                        notes[steps[k]] = notes[s] + 1;
                        order[count] = steps[k];
                        count++;
                    }
                }
            }
        }

        private void weigh(int s, int at) {
            open(s);
            listSteps(s);
            int held = 0;
            for (int v = 0; v < nodes; v++) {
                held += lengths[v];
            }
            if (held == nodes * places) {
                answers[at + 1]++;
            }
            if (held > 0 && plainCount == 0) {
                answers[at + 2]++;
                if (answers[at + 3] == NONE || notes[s] < answers[at + 3]) {
                    answers[at + 3] = notes[s];
                }
            }
            answers[at + 4] = Math.max(answers[at + 4], held);
            if (!ruleLets(0)) {
                answers[at + 5]++;
            }
        }

        /** Takes denied states away that lead to no other denied one, until none is: is one left? */
        private boolean isStarving() {
            int standing = 0;
            for (int i = 0; i < count; i++) {
                open(order[i]);
                notes[order[i]] = ruleLets(0) ? 0 : 1;
                standing += notes[order[i]];
            }
            boolean changed = true;
            for (int turn = 0; turn <= MOST_STATES && changed; turn++) {
                changed = false;
                for (int i = count - 1; i >= 0; i--) {
                    if (notes[order[i]] == 1 && !leadsOn(order[i])) {
                        notes[order[i]] = 0;
                        standing--;
                        changed = true;
                    }
                }
            }
            return standing > 0;
        }

        private boolean leadsOn(int s) {
            open(s);
            listSteps(s);
            for (int k = 0; k < stepCount; k++) {
                if (notes[steps[k]] == 1) {
                    return true;
                }
            }
            return false;
        }

        /** Steps that enter nothing come to an end, so the waits, lengthened again and again, do, too. */
        private int longestWait() {
            Arrays.fill(notes, 0);
            int longest = 0;
            boolean changed = true;
            for (int turn = 0; turn <= MOST_STATES && changed; turn++) {
                changed = false;
                for (int i = count - 1; i >= 0; i--) {
                    int s = order[i];
                    int wait = waitIn(s);
                    if (wait > notes[s]) {
                        notes[s] = wait;
                        longest = Math.max(longest, wait);
                        changed = true;
                    }
                }
            }
            return longest;
        }

        private int waitIn(int s) {
            int wait = 0;
            open(s);
            if (!ruleLets(0)) {
                listSteps(s);
                for (int k = 0; k < plainCount; k++) {
                    wait = Math.max(wait, notes[steps[k]] + 1);
                }
            }
            return wait;
        }

        private void open(int s) {
            for (int v = 0; v < nodes; v++) {
                queues[v] = s % weights[v + 1] / weights[v];
                lengths[v] = lengthOf(queues[v]);
            }
            critical = s / weights[nodes];
        }

        /** Where each step leads from the state that is open: first the steps that enter nothing. */
        private void listSteps(int s) {
            stepCount = 0;
            for (int v = 0; v < nodes; v++) {
                if (queues[v] > 0) {
                    listStepOfFirst(s, v);
                }
            }
            plainCount = stepCount;
            for (int v = 0; v < nodes; v++) {
                for (int toGo = 0; toGo < kinds && ruleLets(v); toGo++) {
                    addStep(s + put(v, toGo));
                }
            }
        }

        private void listStepOfFirst(int s, int v) {
            int rest = (queues[v] - 1) / kinds;
            int toGo = (queues[v] - 1) % kinds;
            int taken = s + (rest - queues[v]) * weights[v];
            if (toGo == 0) {
                addStep(taken);
                return;
            }
            int to = (v + 1) % nodes;
            int free = places - lengths[to];
            if (free > 0) {
                boolean takesLast = rule == RULE_CRITICAL && critical == to && free == 1;
                addStep(taken + put(to, toGo - 1) + (takesLast ? (v - critical) * weights[nodes] : 0));
            }
        }

        private void addStep(int s) {
            if (stepCount < steps.length && s >= 0 && s < MOST_STATES) {
                steps[stepCount] = s;
                stepCount++;
            }
        }

        /** By how much the number of a state grows with one more packet at the end of a queue. */
        private int put(int v, int toGo) {
            int digit = toGo + 1;
            for (int i = 0; i < lengths[v]; i++) {
                digit *= kinds;
            }
            return digit * weights[v];
        }

        private int lengthOf(int code) {
            int length = 0;
            for (int rest = code; rest > 0 && length < places; rest = (rest - 1) / kinds) {
                length++;
            }
            return length;
        }

        private boolean ruleLets(int v) {
            boolean twoNeeded = rule == RULE_TWO_PLACES || (rule == RULE_CRITICAL && critical == v);
            return places - lengths[v] >= (twoNeeded ? 2 : 1);
        }
    }
}

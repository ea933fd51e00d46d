/** A simulator of a fabric of routers that tunnels video, storage and packet traffic over shared cables. */
public final class TunnelFabric {
    public static final int HUB = 0, SCREEN = 1, DISK = 2, NETWORK = 3, HOST = 4;
    public static final int VIDEO = 0, STORAGE = 1, PACKETS = 2;
    public static final int BAD = -1, WRONG_KIND = -2, OCCUPIED = -3, TOO_DEEP = -4, FULL = -5, NO_CREDIT = -6, NO_BANDWIDTH = -7, STATE = -8;
    public static final int NONE = -10;

    private static final int ROUTERS = 8;
    private static final int TUNNELS = 10;
    private static final int SLOTS = 2;
    private static final int DEEPEST = 4;
    private static final int DIRECTIONS = 2;
    private static final int DOWN = 0, UP = 1;
    private static final int AWAKE = 0, DROWSY = 1, ASLEEP = 2, WAKING = 3;
    private static final int TICKS_TO_WAKE = 2;
    private static final int FIRST_HOP_NUMBER = 8, LAST_HOP_NUMBER = 15;
    private static final int MOST_CELLS = 99;
    private static final int MOST_BANDWIDTH = 12;
    private static final int MOST_BYTES = 60;
    private static final int MOST_TICKS = 50;
    private static final int MOST_PATIENCE = 9;
    // A round of turns sends a cell or is the last one, and no capacity is above 12.
    private static final int MOST_TURNS = TUNNELS * (MOST_BANDWIDTH + 1);
    private static final int NOBODY = -1;
    private static final int FINE = 0;

    private final Plan plan = new Plan();
    private final Fabric fabric = new Fabric();
    private final Fabric[] slots = new Fabric[SLOTS];
    private final Clock clock = new Clock();
    private final Shares shares = new Shares();
    private final int[] grantedBefore = new int[TUNNELS];

    public TunnelFabric() {
    }

    // ---- routers

    public int type(int letter) {
        if (!isBetween(letter, 0, 127)) {
            return BAD;
        }
        return plan.append(letter) ? plan.length : FULL;
    }

    public int clearText() {
        int before = plan.length;
        plan.length = 0;
        return before;
    }

    public int fault() {
        return plan.read();
    }

    public int build() {
        if (plan.read() != NONE) {
            return STATE;
        }
        for (int t = 0; t < TUNNELS; t++) {
            if (fabric.hasTunnel(t)) {
                fabric.loseTunnel(t);
                fabric.distribute();
            }
        }
        for (int r = 1; r < ROUTERS; r++) {
            fabric.routers[r].present = false;
        }
        for (int r = 1; r <= plan.lastRead && r < ROUTERS; r++) {
            fabric.attach(r, plan.parents[r], plan.ports[r], plan.kinds[r], plan.generations[r]);
        }
        plan.length = 0;
        return fabric.routersPresent();
    }

    public int plug(int parent, int port, int kind, int generation) {
        if (!fabric.hasPort(parent, port) || !isBetween(kind, HUB, NETWORK) || !isBetween(generation, 1, 3)) {
            return BAD;
        }
        if (fabric.routerIn(parent, port) != NOBODY) {
            return OCCUPIED;
        }
        if (fabric.at(parent).depth >= DEEPEST) {
            return TOO_DEEP;
        }
        int number = fabric.leastAbsent();
        if (number == NOBODY) {
            return FULL;
        }
        fabric.attach(number, parent, port, kind, generation);
        return number;
    }

    public int unplug(int router) {
        if (!fabric.hasLink(router)) {
            return BAD;
        }
        for (int t = 0; t < TUNNELS; t++) {
            if (fabric.tunnels[t].passes(router)) {
                fabric.loseTunnel(t);
            }
        }
        int gone = fabric.detach(router);
        fabric.distribute();
        return gone;
    }

    public int widen(int router, boolean on) {
        if (!fabric.hasLink(router)) {
            return BAD;
        }
        Link link = fabric.at(router).link;
        if (link.generation != 3) {
            return WRONG_KIND;
        }
        if (!on && fabric.reserveOf(router) > narrowLimit(link.generation)) {
            return STATE;
        }
        int before = link.wide ? 1 : 0;
        link.wide = on;
        fabric.distribute();
        return before;
    }

    public int router(int router, int what) {
        if (!fabric.hasRouter(router)) {
            return BAD;
        }
        Router found = fabric.at(router);
        switch (what) {
            case 0: return found.kind;
            case 1: return found.generation;
            case 2: return router == 0 ? NONE : found.parent;
            case 3: return router == 0 ? NONE : found.port;
            case 4: return found.depth;
            case 5: return fabric.countWithin(router) - 1;
            default: return BAD;
        }
    }

    public int plugged(int router, int port) {
        if (!fabric.hasPort(router, port)) {
            return BAD;
        }
        int found = fabric.routerIn(router, port);
        return found == NOBODY ? NONE : found;
    }

    // ---- links

    public int link(int router, int what) {
        if (!fabric.hasLink(router)) {
            return BAD;
        }
        Link link = fabric.at(router).link;
        switch (what) {
            case 0: return link.generation;
            case 1: return link.wide ? 1 : 0;
            case 2: return fabric.reserveOf(router);
            case 3: return link.limit();
            case 4: return link.state;
            case 5: return link.idle;
            case 6: return link.needs;
            default: return BAD;
        }
    }

    public int capacity(int router, int direction) {
        if (!fabric.hasLink(router) || !isDirection(direction)) {
            return BAD;
        }
        return fabric.at(router).link.cellsPerTick(direction);
    }

    public int freeCredits(int router, int direction) {
        if (!fabric.hasLink(router) || !isDirection(direction)) {
            return BAD;
        }
        return fabric.creditsLeft(router, direction);
    }

    public int load(int router, int direction) {
        if (!fabric.hasLink(router) || !isDirection(direction)) {
            return BAD;
        }
        return bitsOf(fabric.at(router).link.loads[direction]);
    }

    // ---- tunnels

    public int open(int kind, int router, int wanted) {
        if (!isBetween(kind, VIDEO, PACKETS) || !fabric.hasRouter(router) || !isBetween(wanted, 1, MOST_BANDWIDTH)) {
            return BAD;
        }
        int refusal = fabric.refusalOf(kind, router);
        return refusal == FINE ? fabric.addTunnel(kind, router, wanted) : refusal;
    }

    public int close(int tunnel) {
        if (!fabric.hasTunnel(tunnel)) {
            return BAD;
        }
        int lost = fabric.loseTunnel(tunnel);
        fabric.distribute();
        return lost;
    }

    public int claim(int tunnel, int wanted) {
        if (!fabric.hasTunnel(tunnel) || !isBetween(wanted, 1, MOST_BANDWIDTH)) {
            return BAD;
        }
        Tunnel found = fabric.tunnels[tunnel];
        if (found.kind != VIDEO) {
            return WRONG_KIND;
        }
        found.wanted = wanted;
        found.granted = Math.min(found.granted, wanted);
        fabric.distribute();
        return found.granted;
    }

    public int offer(int tunnel, int direction, int cells) {
        if (!fabric.hasTunnel(tunnel) || !isDirection(direction) || !isBetween(cells, 1, MOST_CELLS)) {
            return BAD;
        }
        Way way = fabric.tunnels[tunnel].way(direction);
        if (!way.used) {
            return WRONG_KIND;
        }
        if (way.queue + cells > MOST_CELLS) {
            return FULL;
        }
        way.queue += cells;
        return way.queue;
    }

    public int tunnel(int tunnel, int what) {
        if (!fabric.hasTunnel(tunnel)) {
            return BAD;
        }
        Tunnel found = fabric.tunnels[tunnel];
        switch (what) {
            case 0: return found.kind;
            case 1: return found.device;
            case 2: return found.kind == VIDEO ? found.wanted : NONE;
            case 3: return found.kind == VIDEO ? found.granted : NONE;
            case 4: return found.down.length;
            case 5: return found.openedBefore;
            default: return BAD;
        }
    }

    public int hop(int tunnel, int direction, int hop, int what) {
        if (!fabric.hasTunnel(tunnel) || !isDirection(direction) || !isBetween(what, 0, 3)) {
            return BAD;
        }
        Way way = fabric.tunnels[tunnel].way(direction);
        if (!way.hasHop(hop)) {
            return NONE;
        }
        switch (what) {
            case 0: return way.links[hop];
            case 1: return way.numbers[hop];
            case 2: return way.credits[hop];
            default: return way.cells[hop];
        }
    }

    public int cellCount(int tunnel, int direction, int what) {
        if (!fabric.hasTunnel(tunnel) || !isDirection(direction) || !isBetween(what, 0, 2)) {
            return BAD;
        }
        Way way = fabric.tunnels[tunnel].way(direction);
        if (!way.used) {
            return NONE;
        }
        switch (what) {
            case 0: return way.queue;
            case 1: return way.cellsInBuffers();
            default: return way.delivered;
        }
    }

    // ---- time

    public int tick(int n) {
        if (!isBetween(n, 1, MOST_TICKS)) {
            return BAD;
        }
        int delivered = 0;
        for (int i = 0; i < n; i++) {
            delivered += clock.pass(fabric);
        }
        return delivered;
    }

    public int setPatience(int ticks) {
        if (!isBetween(ticks, 1, MOST_PATIENCE)) {
            return BAD;
        }
        int before = fabric.patience;
        fabric.patience = ticks;
        return before;
    }

    // ---- analysis

    public int fairShare(int tunnel, int direction) {
        if (!fabric.hasTunnel(tunnel) || !isDirection(direction)) {
            return BAD;
        }
        Tunnel found = fabric.tunnels[tunnel];
        if (found.kind == VIDEO) {
            return direction == DOWN ? bitsOf((float) found.granted) : bitsOf(0f);
        }
        shares.compute(fabric, direction);
        return bitsOf(shares.shares[tunnel]);
    }

    public int room(int router) {
        return fabric.hasRouter(router) ? fabric.roomTo(router) : BAD;
    }

    public int bestPort(int generation) {
        if (!isBetween(generation, 1, 3)) {
            return BAD;
        }
        int best = NONE;
        int bestRoom = 0;
        int bestDepth = 0;
        for (int r = 0; r < ROUTERS; r++) {
            int port = fabric.leastFreePort(r);
            if (port == NOBODY) {
                continue;
            }
            int depth = fabric.routers[r].depth;
            int room = fabric.roomOfScreenAt(r, generation);
            if (best == NONE || room > bestRoom || room == bestRoom && depth < bestDepth) {
                best = 8 * r + port;
                bestRoom = room;
                bestDepth = depth;
            }
        }
        return best;
    }

    public int gain(int tunnel) {
        if (!fabric.hasTunnel(tunnel)) {
            return BAD;
        }
        for (int t = 0; t < TUNNELS; t++) {
            grantedBefore[t] = fabric.tunnels[t].granted;
        }
        // It is tried with the tunnel closed, and then undone.
        fabric.tunnels[tunnel].isOpen = false;
        fabric.distribute();
        fabric.tunnels[tunnel].isOpen = true;
        int gain = 0;
        for (int t = 0; t < TUNNELS; t++) {
            gain += fabric.tunnels[t].granted - grantedBefore[t];
            fabric.tunnels[t].granted = grantedBefore[t];
        }
        return gain;
    }

    public int bottleneck(int tunnel) {
        return fabric.hasTunnel(tunnel) ? fabric.tightestLink(fabric.tunnels[tunnel].down) : BAD;
    }

    // ---- counts, slots, digest

    public int count(int what) {
        switch (what) {
            case 0: return fabric.routersPresent();
            case 1: return fabric.tunnelsOpen();
            case 2: return fabric.ticks;
            case 3: return fabric.delivered;
            case 4: return fabric.lost;
            case 5: return fabric.linksAsleep();
            case 6: return fabric.patience;
            case 7: return plan.length;
            case 8: return fabric.opened;
            default: return BAD;
        }
    }

    public int save(int slot) {
        if (!isBetween(slot, 0, SLOTS - 1)) {
            return BAD;
        }
        Fabric saved = slots[slot];
        if (saved == null) {
            saved = new Fabric();
            slots[slot] = saved;
        }
        saved.copyFrom(fabric);
        return fabric.tunnelsOpen();
    }

    public int restore(int slot) {
        if (!isBetween(slot, 0, SLOTS - 1)) {
            return BAD;
        }
        Fabric saved = slots[slot];
        if (saved == null) {
            return STATE;
        }
        fabric.copyFrom(saved);
        return fabric.tunnelsOpen();
    }

    public long digest() {
        long h = 41;
        for (int what = 0; what <= 8; what++) {
            h = 31 * h + count(what);
        }
        for (int r = 1; r < ROUTERS; r++) {
            h = fabric.hasLink(r) ? digestRouter(h, r) : 31 * h - 1;
        }
        for (int t = 0; t < TUNNELS; t++) {
            h = fabric.hasTunnel(t) ? digestTunnel(h, t) : 31 * h - 1;
        }
        return h;
    }

    private long digestRouter(long before, int r) {
        long h = before;
        for (int what = 0; what <= 5; what++) {
            h = 31 * h + router(r, what);
        }
        for (int what = 0; what <= 6; what++) {
            h = 31 * h + link(r, what);
        }
        for (int d = 0; d < DIRECTIONS; d++) {
            h = 31 * h + capacity(r, d);
            h = 31 * h + freeCredits(r, d);
            h = 31 * h + load(r, d);
        }
        return h;
    }

    private long digestTunnel(long before, int t) {
        long h = before;
        for (int what = 0; what <= 5; what++) {
            h = 31 * h + tunnel(t, what);
        }
        for (int d = 0; d < DIRECTIONS; d++) {
            if (fabric.tunnels[t].way(d).used) {
                h = digestWay(h, t, d);
            }
        }
        return h;
    }

    private long digestWay(long before, int t, int d) {
        long h = before;
        for (int what = 0; what <= 2; what++) {
            h = 31 * h + cellCount(t, d, what);
        }
        int hops = fabric.tunnels[t].way(d).length;
        for (int i = 0; i < hops; i++) {
            for (int what = 0; what <= 3; what++) {
                h = 31 * h + hop(t, d, i, what);
            }
        }
        return h;
    }

    // ---- what holds for all fabrics

    private static boolean isBetween(int value, int least, int most) {
        return value >= least && value <= most;
    }

    private static boolean isDirection(int direction) {
        return direction == DOWN || direction == UP;
    }

    private static int portsOf(int kind) {
        switch (kind) {
            case HUB: return 3;
            case SCREEN: return 1;
            case DISK: return 1;
            case HOST: return 2;
            default: return 0;
        }
    }

    private static int buffersOf(int kind) {
        switch (kind) {
            case HUB: return 24;
            case SCREEN: return 12;
            case DISK: return 16;
            case NETWORK: return 16;
            default: return 40;
        }
    }

    private static int buffersPerPort(int kind) {
        int ports = portsOf(kind);
        return ports == 0 ? 0 : buffersOf(kind) / ports;
    }

    private static int rateOf(int generation) {
        switch (generation) {
            case 1: return 1;
            case 2: return 2;
            default: return 4;
        }
    }

    private static int narrowLimit(int generation) {
        return rateOf(generation) * 2 - 1;
    }

    private static int deviceFor(int tunnelKind) {
        switch (tunnelKind) {
            case VIDEO: return SCREEN;
            case STORAGE: return DISK;
            default: return NETWORK;
        }
    }

    private static int baysFor(int tunnelKind) {
        return tunnelKind == VIDEO ? 2 : 4;
    }

    private static int mostCredits(int tunnelKind) {
        switch (tunnelKind) {
            case VIDEO: return 4;
            case STORAGE: return 6;
            default: return 3;
        }
    }

    private static int leastCredits(int tunnelKind) {
        return tunnelKind == VIDEO ? 4 : 1;
    }

    /** What Float.floatToIntBits returns for a float from 0 on; the language rules leave only arithmetic for it. */
    private static int bitsOf(float value) {
        if (value <= 0f) {
            return 0;
        }
        float scaled = value;
        int exponent = 127;
        while (scaled >= 2f && exponent < 254) {
            scaled = scaled / 2f;
            exponent++;
        }
        while (scaled < 1f && exponent > 1) {
            scaled = scaled * 2f;
            exponent--;
        }
        // The leading 1 of a normal float counts as one step of the exponent; a subnormal has none, at exponent 1.
        return ((exponent - 1) << 23) + (int) (scaled * 8388608f);
    }

    /** The text, and the routers that it describes. */
    private static final class Plan {
        final int[] bytes = new int[MOST_BYTES];
        int length;

        // The rows are by router number; row 0 is the host.
        final int[] kinds = new int[ROUTERS];
        final int[] generations = new int[ROUTERS];
        final int[] parents = new int[ROUTERS];
        final int[] ports = new int[ROUTERS];
        final int[] depths = new int[ROUTERS];
        final int[] portsTaken = new int[ROUTERS];

        int lastRead;
        int parent;
        boolean digitIsDue;
        boolean parenthesisMayOpen;

        boolean append(int letter) {
            if (length < 0 || length >= MOST_BYTES) {
                return false;
            }
            bytes[length] = letter;
            length++;
            return true;
        }

        /** Reads the text into the rows and returns its fault, or NONE. */
        int read() {
            startReading();
            for (int i = 0; i < length && i < MOST_BYTES; i++) {
                if (!accepts(bytes[i])) {
                    return i;
                }
            }
            return digitIsDue || parent != 0 ? length : NONE;
        }

        void startReading() {
            kinds[0] = HOST;
            depths[0] = 0;
            portsTaken[0] = 0;
            lastRead = 0;
            parent = 0;
            digitIsDue = false;
            parenthesisMayOpen = false;
        }

        boolean accepts(int letter) {
            switch (letter) {
                case ' ': return true;
                case '(': return acceptsOpening();
                case ')': return acceptsClosing();
                case 'h': return acceptsRouter(HUB);
                case 's': return acceptsRouter(SCREEN);
                case 'd': return acceptsRouter(DISK);
                case 'n': return acceptsRouter(NETWORK);
                case '1': return acceptsGeneration(1);
                case '2': return acceptsGeneration(2);
                case '3': return acceptsGeneration(3);
                default: return false;
            }
        }

        boolean acceptsOpening() {
            if (!parenthesisMayOpen) {
                return false;
            }
            parent = lastRead;
            parenthesisMayOpen = false;
            return true;
        }

        boolean acceptsClosing() {
            if (digitIsDue || parent <= 0 || parent >= ROUTERS) {
                return false;
            }
            parent = parents[parent];
            parenthesisMayOpen = false;
            return true;
        }

        boolean acceptsRouter(int kind) {
            if (digitIsDue || !isBetween(lastRead + 1, 1, ROUTERS - 1) || !parentTakesOneMore()) {
                return false;
            }
            lastRead++;
            kinds[lastRead] = kind;
            parents[lastRead] = parent;
            ports[lastRead] = portsTaken[parent];
            depths[lastRead] = depths[parent] + 1;
            portsTaken[lastRead] = 0;
            portsTaken[parent]++;
            digitIsDue = true;
            parenthesisMayOpen = false;
            return true;
        }

        boolean parentTakesOneMore() {
            return isBetween(parent, 0, ROUTERS - 1)
                && portsTaken[parent] < portsOf(kinds[parent])
                && depths[parent] < DEEPEST;
        }

        boolean acceptsGeneration(int generation) {
            if (!digitIsDue || !isBetween(lastRead, 1, ROUTERS - 1)) {
                return false;
            }
            generations[lastRead] = generation;
            digitIsDue = false;
            parenthesisMayOpen = true;
            return true;
        }
    }

    /** The link of a router to its parent. The rows are by direction. */
    private static final class Link {
        int generation;
        boolean wide;
        int state;
        int idle;
        int needs;
        final int[] pools = new int[DIRECTIONS];
        final int[] lastTurns = new int[DIRECTIONS];
        final int[] sent = new int[DIRECTIONS];
        final float[] loads = new float[DIRECTIONS];

        void renew(int newGeneration, int poolDown, int poolUp) {
            generation = newGeneration;
            wide = false;
            state = AWAKE;
            idle = 0;
            needs = 0;
            pools[DOWN] = poolDown;
            pools[UP] = poolUp;
            for (int d = 0; d < DIRECTIONS; d++) {
                lastTurns[d] = NOBODY;
                sent[d] = 0;
                loads[d] = 0f;
            }
        }

        int cellsPerTick(int direction) {
            int wideLanes = direction == DOWN ? 3 : 1;
            return rateOf(generation) * (wide ? wideLanes : 2);
        }

        int limit() {
            return cellsPerTick(DOWN) - 1;
        }

        boolean carriesCells() {
            return state == AWAKE || state == DROWSY;
        }

        void startWaking() {
            state = WAKING;
            needs = TICKS_TO_WAKE;
        }

        void rouse() {
            if (state == ASLEEP) {
                startWaking();
            } else if (state == DROWSY) {
                state = AWAKE;
            }
        }

        void copyFrom(Link other) {
            generation = other.generation;
            wide = other.wide;
            state = other.state;
            idle = other.idle;
            needs = other.needs;
            for (int d = 0; d < DIRECTIONS; d++) {
                pools[d] = other.pools[d];
                lastTurns[d] = other.lastTurns[d];
                sent[d] = other.sent[d];
                loads[d] = other.loads[d];
            }
        }
    }

    /** A router with its link to its parent; the link of the host has no meaning. */
    private static final class Router {
        boolean present;
        int kind;
        int generation;
        int parent;
        int port;
        int depth;
        final Link link = new Link();

        void copyFrom(Router other) {
            present = other.present;
            kind = other.kind;
            generation = other.generation;
            parent = other.parent;
            port = other.port;
            depth = other.depth;
            link.copyFrom(other.link);
        }
    }

    /** One direction of a tunnel. The rows are by hop. */
    private static final class Way {
        boolean used;
        int length;
        int queue;
        int delivered;
        final int[] links = new int[DEEPEST];
        final int[] numbers = new int[DEEPEST];
        final int[] credits = new int[DEEPEST];
        final int[] cells = new int[DEEPEST];
        final int[] sent = new int[DEEPEST];

        void empty() {
            used = false;
            length = 0;
            queue = 0;
            delivered = 0;
        }

        void appendHop(int link, int number, int creditsOfHop) {
            if (length < 0 || length >= DEEPEST) {
                return;
            }
            links[length] = link;
            numbers[length] = number;
            credits[length] = creditsOfHop;
            cells[length] = 0;
            sent[length] = 0;
            length++;
        }

        boolean hasHop(int hop) {
            return used && hop >= 0 && hop < length;
        }

        int hopOver(int link) {
            for (int hop = 0; hop < length; hop++) {
                if (links[hop] == link) {
                    return used ? hop : NOBODY;
                }
            }
            return NOBODY;
        }

        int cellsBefore(int hop) {
            return hop >= 1 && hop <= DEEPEST ? cells[hop - 1] : queue;
        }

        int cellsInBuffers() {
            int sum = 0;
            for (int hop = 0; hop < length; hop++) {
                sum += cells[hop];
            }
            return sum;
        }

        /** Sends cells over a hop, by the numbers at the beginning of the tick; they move when the tick does. */
        int send(int hop, int most) {
            if (!hasHop(hop)) {
                return 0;
            }
            int waiting = cellsBefore(hop) - sent[hop];
            int fitting = credits[hop] - cells[hop] - sent[hop];
            int going = Math.max(0, Math.min(most, Math.min(waiting, fitting)));
            sent[hop] += going;
            return going;
        }

        /** Moves all cells that were sent, and returns how many of them are delivered. */
        int move() {
            if (length <= 0) {
                return 0;
            }
            for (int hop = 0; hop < length; hop++) {
                if (hop == 0) {
                    queue -= sent[hop];
                } else {
                    cells[hop - 1] -= sent[hop];
                }
                cells[hop] += sent[hop];
                sent[hop] = 0;
            }
            int arrived = cells[length - 1];
            cells[length - 1] = 0;
            delivered += arrived;
            return arrived;
        }

        void copyFrom(Way other) {
            used = other.used;
            length = other.length;
            queue = other.queue;
            delivered = other.delivered;
            for (int hop = 0; hop < DEEPEST; hop++) {
                links[hop] = other.links[hop];
                numbers[hop] = other.numbers[hop];
                credits[hop] = other.credits[hop];
                cells[hop] = other.cells[hop];
                sent[hop] = other.sent[hop];
            }
        }
    }

    private static final class Tunnel {
        boolean isOpen;
        int kind;
        int device;
        int wanted;
        int granted;
        int openedBefore;
        final Way down = new Way();
        final Way up = new Way();

        Way way(int direction) {
            return direction == DOWN ? down : up;
        }

        boolean passes(int router) {
            return isOpen && down.hopOver(router) != NOBODY;
        }

        boolean isOpenVideo() {
            return isOpen && kind == VIDEO;
        }

        boolean takesTurns() {
            return isOpen && kind != VIDEO;
        }

        /** The cells that it may send in a turn, and its weight among the fair shares. */
        int weight() {
            return kind == STORAGE ? 2 : 1;
        }

        boolean waitsFor(int router, int direction) {
            Way way = way(direction);
            int hop = isOpen ? way.hopOver(router) : NOBODY;
            return hop != NOBODY && way.cellsBefore(hop) > 0;
        }

        int cellsHeld() {
            return down.queue + down.cellsInBuffers() + up.queue + up.cellsInBuffers();
        }

        void copyFrom(Tunnel other) {
            isOpen = other.isOpen;
            kind = other.kind;
            device = other.device;
            wanted = other.wanted;
            granted = other.granted;
            openedBefore = other.openedBefore;
            down.copyFrom(other.down);
            up.copyFrom(other.up);
        }
    }

    /** All that a slot saves: the routers with their links, the tunnels, and the counts. */
    private static final class Fabric {
        final Router[] routers = new Router[ROUTERS];
        final Tunnel[] tunnels = new Tunnel[TUNNELS];
        int patience = 3;
        int ticks;
        int delivered;
        int lost;
        int opened;

        Fabric() {
            for (int r = 0; r < ROUTERS; r++) {
                routers[r] = new Router();
            }
            for (int t = 0; t < TUNNELS; t++) {
                tunnels[t] = new Tunnel();
            }
            routers[0].present = true;
            routers[0].kind = HOST;
            routers[0].generation = 3;
        }

        void copyFrom(Fabric other) {
            for (int r = 0; r < ROUTERS; r++) {
                routers[r].copyFrom(other.routers[r]);
            }
            for (int t = 0; t < TUNNELS; t++) {
                tunnels[t].copyFrom(other.tunnels[t]);
            }
            patience = other.patience;
            ticks = other.ticks;
            delivered = other.delivered;
            lost = other.lost;
            opened = other.opened;
        }

        boolean hasRouter(int router) {
            return router >= 0 && router < ROUTERS && routers[router].present;
        }

        boolean hasLink(int router) {
            return router != 0 && hasRouter(router);
        }

        boolean hasPort(int router, int port) {
            return hasRouter(router) && port >= 0 && port < portsOf(routers[router].kind);
        }

        boolean hasTunnel(int tunnel) {
            return tunnel >= 0 && tunnel < TUNNELS && tunnels[tunnel].isOpen;
        }

        /** A router by a number that is known to be one; any other number leads to the host. */
        Router at(int router) {
            return router > 0 && router < ROUTERS ? routers[router] : routers[0];
        }

        int routersPresent() {
            return countWithin(0);
        }

        int tunnelsOpen() {
            int sum = 0;
            for (int t = 0; t < TUNNELS; t++) {
                sum += tunnels[t].isOpen ? 1 : 0;
            }
            return sum;
        }

        int linksAsleep() {
            int sum = 0;
            for (int r = 1; r < ROUTERS; r++) {
                sum += routers[r].present && routers[r].link.state == ASLEEP ? 1 : 0;
            }
            return sum;
        }

        int leastAbsent() {
            for (int r = 1; r < ROUTERS; r++) {
                if (!routers[r].present) {
                    return r;
                }
            }
            return NOBODY;
        }

        int routerIn(int parent, int port) {
            for (int r = 1; r < ROUTERS; r++) {
                if (routers[r].present && routers[r].parent == parent && routers[r].port == port) {
                    return r;
                }
            }
            return NOBODY;
        }

        /** The least port of a router into which one more can be plugged, or NOBODY. */
        int leastFreePort(int router) {
            if (!hasRouter(router) || routers[router].depth >= DEEPEST) {
                return NOBODY;
            }
            int ports = portsOf(routers[router].kind);
            for (int port = 0; port < ports; port++) {
                if (routerIn(router, port) == NOBODY) {
                    return port;
                }
            }
            return NOBODY;
        }

        void attach(int number, int parent, int port, int kind, int generation) {
            Router upper = at(parent);
            Router added = at(number);
            added.present = true;
            added.kind = kind;
            added.generation = generation;
            added.parent = parent;
            added.port = port;
            added.depth = upper.depth + 1;
            added.link.renew(Math.min(generation, upper.generation), buffersOf(kind), buffersPerPort(upper.kind));
        }

        /** Takes a router away with all below it, and returns how many are gone. */
        int detach(int router) {
            int gone = 0;
            for (int r = 1; r < ROUTERS; r++) {
                // An absent router keeps its parent, so those below it are still found.
                if (routers[r].present && isWithin(r, router)) {
                    routers[r].present = false;
                    gone++;
                }
            }
            return gone;
        }

        boolean isWithin(int router, int top) {
            int r = router;
            for (int step = 0; step < DEEPEST && r != 0 && r != top; step++) {
                r = at(r).parent;
            }
            return r == top;
        }

        int countWithin(int top) {
            int sum = 0;
            for (int r = 0; r < ROUTERS; r++) {
                sum += routers[r].present && isWithin(r, top) ? 1 : 0;
            }
            return sum;
        }

        int reserveOf(int router) {
            int sum = 0;
            for (int t = 0; t < TUNNELS; t++) {
                if (tunnels[t].isOpenVideo() && tunnels[t].passes(router)) {
                    sum += tunnels[t].granted;
                }
            }
            return sum;
        }

        int spareOf(int router) {
            return at(router).link.limit() - reserveOf(router);
        }

        int roomTo(int router) {
            int room = MOST_BANDWIDTH;
            int r = router;
            for (int step = 0; step < DEEPEST && r != 0; step++) {
                room = Math.min(room, spareOf(r));
                r = at(r).parent;
            }
            return room;
        }

        int roomOfScreenAt(int router, int generation) {
            return Math.min(roomTo(router), narrowLimit(Math.min(generation, at(router).generation)));
        }

        int tightestLink(Way path) {
            int best = NOBODY;
            int least = 0;
            for (int hop = 0; hop < path.length; hop++) {
                int spare = spareOf(path.links[hop]);
                if (best == NOBODY || spare < least) {
                    best = path.links[hop];
                    least = spare;
                }
            }
            return best;
        }

        void distribute() {
            int latest = NOBODY;
            for (int i = 0; i < TUNNELS; i++) {
                Tunnel next = videoOpenedAfter(latest);
                if (next == null) {
                    return;
                }
                latest = next.openedBefore;
                if (next.granted < next.wanted) {
                    next.granted = Math.min(next.wanted, next.granted + roomTo(next.device));
                }
            }
        }

        Tunnel videoOpenedAfter(int latest) {
            Tunnel next = null;
            for (int t = 0; t < TUNNELS; t++) {
                Tunnel tunnel = tunnels[t];
                boolean later = tunnel.isOpenVideo() && tunnel.openedBefore > latest;
                if (later && (next == null || tunnel.openedBefore < next.openedBefore)) {
                    next = tunnel;
                }
            }
            return next;
        }

        int creditsLeft(int router, int direction) {
            if (!isDirection(direction)) {
                return 0;
            }
            int left = at(router).link.pools[direction];
            for (int t = 0; t < TUNNELS; t++) {
                Way way = tunnels[t].way(direction);
                int hop = tunnels[t].isOpen ? way.hopOver(router) : NOBODY;
                if (way.hasHop(hop)) {
                    left -= way.credits[hop];
                }
            }
            return left;
        }

        /** The least hop number that is free in a direction of a link, or NOBODY. */
        int leastHopNumber(int router, int direction) {
            for (int number = FIRST_HOP_NUMBER; number <= LAST_HOP_NUMBER; number++) {
                if (!isTaken(number, router, direction)) {
                    return number;
                }
            }
            return NOBODY;
        }

        boolean isTaken(int number, int router, int direction) {
            for (int t = 0; t < TUNNELS; t++) {
                Way way = tunnels[t].way(direction);
                int hop = tunnels[t].isOpen ? way.hopOver(router) : NOBODY;
                if (way.hasHop(hop) && way.numbers[hop] == number) {
                    return true;
                }
            }
            return false;
        }

        /** The error for which a tunnel cannot be opened, or FINE. */
        int refusalOf(int kind, int device) {
            if (at(device).kind != deviceFor(kind)) {
                return WRONG_KIND;
            }
            if (baysTaken(kind) >= baysFor(kind) || !hopNumbersSuffice(kind, device)) {
                return FULL;
            }
            if (!creditsSuffice(kind, device)) {
                return NO_CREDIT;
            }
            return kind == VIDEO && roomTo(device) <= 0 ? NO_BANDWIDTH : FINE;
        }

        int baysTaken(int kind) {
            int sum = 0;
            for (int t = 0; t < TUNNELS; t++) {
                sum += tunnels[t].isOpen && tunnels[t].kind == kind ? 1 : 0;
            }
            return sum;
        }

        boolean hopNumbersSuffice(int kind, int device) {
            int r = device;
            for (int step = 0; step < DEEPEST && r != 0; step++) {
                if (leastHopNumber(r, DOWN) == NOBODY || kind != VIDEO && leastHopNumber(r, UP) == NOBODY) {
                    return false;
                }
                r = at(r).parent;
            }
            return true;
        }

        boolean creditsSuffice(int kind, int device) {
            int least = leastCredits(kind);
            int r = device;
            for (int step = 0; step < DEEPEST && r != 0; step++) {
                if (creditsLeft(r, DOWN) < least || kind != VIDEO && creditsLeft(r, UP) < least) {
                    return false;
                }
                r = at(r).parent;
            }
            return true;
        }

        /** Opens a tunnel that is not refused, and returns its number. */
        int addTunnel(int kind, int device, int wanted) {
            int number = leastClosed();
            if (number < 0 || number >= TUNNELS) {
                return FULL;
            }
            Tunnel added = tunnels[number];
            added.kind = kind;
            added.device = device;
            added.wanted = wanted;
            added.granted = kind == VIDEO ? Math.min(wanted, roomTo(device)) : 0;
            added.openedBefore = opened;
            added.down.empty();
            added.up.empty();
            layDown(added);
            if (kind == VIDEO) {
                rousePath(device);
            } else {
                layUp(added);
            }
            added.isOpen = true;
            opened++;
            return number;
        }

        int leastClosed() {
            for (int t = 0; t < TUNNELS; t++) {
                if (!tunnels[t].isOpen) {
                    return t;
                }
            }
            return NOBODY;
        }

        void layDown(Tunnel tunnel) {
            int depth = at(tunnel.device).depth;
            for (int hop = 1; hop <= depth && hop <= DEEPEST; hop++) {
                layHop(tunnel, DOWN, ancestorAt(tunnel.device, hop));
            }
            tunnel.down.used = true;
        }

        void layUp(Tunnel tunnel) {
            int r = tunnel.device;
            for (int step = 0; step < DEEPEST && r != 0; step++) {
                layHop(tunnel, UP, r);
                r = at(r).parent;
            }
            tunnel.up.used = true;
        }

        void layHop(Tunnel tunnel, int direction, int router) {
            int credits = Math.min(mostCredits(tunnel.kind), creditsLeft(router, direction));
            tunnel.way(direction).appendHop(router, leastHopNumber(router, direction), credits);
        }

        int ancestorAt(int router, int depth) {
            int r = router;
            for (int step = 0; step < DEEPEST && at(r).depth > depth; step++) {
                r = at(r).parent;
            }
            return r;
        }

        void rousePath(int device) {
            int r = device;
            for (int step = 0; step < DEEPEST && r != 0; step++) {
                at(r).link.rouse();
                r = at(r).parent;
            }
        }

        /** Closes a tunnel without distributing, and returns how many cells are lost. */
        int loseTunnel(int tunnel) {
            if (!hasTunnel(tunnel)) {
                return 0;
            }
            int cells = tunnels[tunnel].cellsHeld();
            tunnels[tunnel].isOpen = false;
            lost += cells;
            return cells;
        }
    }

    /** Lets a tick pass in a fabric. */
    private static final class Clock {
        // By tunnel: its hop over the direction of the link at hand, or NOBODY.
        final int[] hops = new int[TUNNELS];
        int left;

        int pass(Fabric fabric) {
            for (int r = 1; r < ROUTERS; r++) {
                if (fabric.routers[r].present) {
                    wake(fabric, r);
                }
            }
            for (int r = 1; r < ROUTERS; r++) {
                if (fabric.routers[r].present) {
                    sendOver(fabric, r);
                }
            }
            int delivered = moveCells(fabric);
            for (int r = 1; r < ROUTERS; r++) {
                if (fabric.routers[r].present) {
                    updateLoads(fabric.routers[r].link);
                    settle(fabric, r);
                }
            }
            fabric.ticks++;
            fabric.delivered += delivered;
            return delivered;
        }

        void wake(Fabric fabric, int router) {
            Link link = fabric.at(router).link;
            if (link.state == WAKING) {
                link.needs--;
                if (link.needs <= 0) {
                    link.needs = 0;
                    link.state = AWAKE;
                }
            } else if (link.state == ASLEEP && isAwaited(fabric, router)) {
                link.startWaking();
            }
        }

        boolean isAwaited(Fabric fabric, int router) {
            for (int t = 0; t < TUNNELS; t++) {
                if (fabric.tunnels[t].waitsFor(router, DOWN) || fabric.tunnels[t].waitsFor(router, UP)) {
                    return true;
                }
            }
            return false;
        }

        void sendOver(Fabric fabric, int router) {
            Link link = fabric.at(router).link;
            for (int d = 0; d < DIRECTIONS; d++) {
                link.sent[d] = 0;
                if (link.carriesCells() && findHops(fabric, router, d)) {
                    left = link.cellsPerTick(d);
                    sendVideo(fabric, d);
                    link.lastTurns[d] = sendByTurns(fabric, d, link.lastTurns[d]);
                    link.sent[d] = link.cellsPerTick(d) - left;
                }
            }
        }

        /** Fills the row of hops, and says whether a tunnel uses this direction of the link. */
        boolean findHops(Fabric fabric, int router, int direction) {
            boolean found = false;
            for (int t = 0; t < TUNNELS; t++) {
                Tunnel tunnel = fabric.tunnels[t];
                hops[t] = tunnel.isOpen ? tunnel.way(direction).hopOver(router) : NOBODY;
                found = found || hops[t] != NOBODY;
            }
            return found;
        }

        void sendVideo(Fabric fabric, int direction) {
            for (int t = 0; t < TUNNELS; t++) {
                Tunnel tunnel = fabric.tunnels[t];
                if (tunnel.isOpenVideo()) {
                    left -= tunnel.way(direction).send(hops[t], Math.min(left, tunnel.granted));
                }
            }
        }

        /** Returns the tunnel that sent a cell last by turns, which is the one before if none does. */
        int sendByTurns(Fabric fabric, int direction, int lastBefore) {
            int last = lastBefore;
            int t = lastBefore;
            int quietTurns = 0;
            for (int turn = 0; turn < MOST_TURNS && left > 0 && quietTurns < TUNNELS; turn++) {
                t = t < 0 || t + 1 >= TUNNELS ? 0 : t + 1;
                Tunnel tunnel = fabric.tunnels[t];
                int sent = tunnel.takesTurns()
                    ? tunnel.way(direction).send(hops[t], Math.min(left, tunnel.weight()))
                    : 0;
                left -= sent;
                quietTurns = sent > 0 ? 0 : quietTurns + 1;
                last = sent > 0 ? t : last;
            }
            return last;
        }

        int moveCells(Fabric fabric) {
            int delivered = 0;
            for (int t = 0; t < TUNNELS; t++) {
                if (fabric.tunnels[t].isOpen) {
                    delivered += fabric.tunnels[t].down.move();
                    delivered += fabric.tunnels[t].up.move();
                }
            }
            return delivered;
        }

        void updateLoads(Link link) {
            for (int d = 0; d < DIRECTIONS; d++) {
                int most = link.cellsPerTick(d);
                float used = most <= 0 ? 0f : (float) link.sent[d] / (float) most;
                link.loads[d] = link.loads[d] * 0.875f + used * 0.125f;
            }
        }

        void settle(Fabric fabric, int router) {
            Link link = fabric.at(router).link;
            boolean quiet = link.sent[DOWN] + link.sent[UP] == 0;
            link.idle = quiet && link.carriesCells() ? link.idle + 1 : 0;
            if (link.state == DROWSY) {
                link.state = quiet ? ASLEEP : AWAKE;
            } else if (link.state == AWAKE && link.idle >= fabric.patience && !carriesVideo(fabric, router)) {
                link.state = DROWSY;
            }
        }

        boolean carriesVideo(Fabric fabric, int router) {
            for (int t = 0; t < TUNNELS; t++) {
                if (fabric.tunnels[t].isOpenVideo() && fabric.tunnels[t].passes(router)) {
                    return true;
                }
            }
            return false;
        }
    }

    /** The weighted max-min fair shares of all storage and packet tunnels in a direction. */
    private static final class Shares {
        final float[] left = new float[ROUTERS];
        final float[] shares = new float[TUNNELS];
        final boolean[] active = new boolean[TUNNELS];
        float level;

        void compute(Fabric fabric, int direction) {
            for (int r = 1; r < ROUTERS; r++) {
                int reserve = direction == DOWN ? fabric.reserveOf(r) : 0;
                left[r] = (float) (fabric.routers[r].link.cellsPerTick(direction) - reserve);
            }
            for (int t = 0; t < TUNNELS; t++) {
                active[t] = fabric.tunnels[t].takesTurns();
                shares[t] = 0f;
            }
            // Each round ends at least one tunnel's activity.
            for (int round = 0; round < TUNNELS; round++) {
                int chosen = chooseLink(fabric);
                if (chosen == NOBODY) {
                    return;
                }
                settleLink(fabric, chosen);
            }
        }

        /** Finds the link with the least level, which is kept; NOBODY if no tunnel is active. */
        int chooseLink(Fabric fabric) {
            int chosen = NOBODY;
            level = 0f;
            for (int r = 1; r < ROUTERS; r++) {
                int weight = activeWeight(fabric, r);
                if (weight > 0) {
                    float levelHere = left[r] / (float) weight;
                    if (chosen == NOBODY || levelHere < level) {
                        chosen = r;
                        level = levelHere;
                    }
                }
            }
            return chosen;
        }

        int activeWeight(Fabric fabric, int router) {
            int sum = 0;
            for (int t = 0; t < TUNNELS; t++) {
                if (active[t] && fabric.tunnels[t].passes(router)) {
                    sum += fabric.tunnels[t].weight();
                }
            }
            return sum;
        }

        void settleLink(Fabric fabric, int router) {
            for (int t = 0; t < TUNNELS; t++) {
                Tunnel tunnel = fabric.tunnels[t];
                if (active[t] && tunnel.passes(router)) {
                    shares[t] = level * (float) tunnel.weight();
                    active[t] = false;
                    takeFromPath(tunnel.down, shares[t]);
                }
            }
        }

        void takeFromPath(Way path, float share) {
            for (int hop = path.length - 1; hop >= 0; hop--) {
                int r = path.links[hop];
                if (r > 0 && r < ROUTERS) {
                    float rest = left[r] - share;
                    left[r] = rest < 0f ? 0f : rest;
                }
            }
        }
    }
}

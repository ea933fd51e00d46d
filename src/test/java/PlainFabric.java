import java.util.ArrayList;
import java.util.Arrays;
import java.util.Comparator;
import java.util.List;
import java.util.TreeMap;

/**
 * A second model of the document, written apart from the class and in another way: with the Java library, objects
 * that refer to one another, and nothing kept that can be worked out. It follows the document's sentences in their
 * order. Slots are kept as lists of the calls that led to them, and a restore makes those calls again.
 */
final class PlainFabric {
    static final int BAD = -1, WRONG_KIND = -2, OCCUPIED = -3, TOO_DEEP = -4, FULL = -5, NO_CREDIT = -6,
        NO_BANDWIDTH = -7, STATE = -8, NONE = -10;
    static final int[] PORTS = {3, 1, 1, 0, 2};
    static final int[] BUFFERS = {24, 12, 16, 16, 40};
    static final int[] RATES = {0, 1, 2, 4};
    static final int[] BAYS = {2, 4, 4};
    static final int[] MOST = {4, 6, 3};
    static final int[] NEEDED = {4, 1, 1};

    static final class Node {
        int number, kind, generation, port, depth;
        Node parent;
        boolean wide;
        String state = "awake";
        int idle, wakeTicks;
        float[] load = {0, 0};
        int[] last = {-1, -1};
        int[] sent = {0, 0};

        int linkGeneration() {
            return Math.min(generation, parent.generation);
        }

        int capacity(int d) {
            int lanes = wide ? (d == 0 ? 3 : 1) : 2;
            return RATES[linkGeneration()] * lanes;
        }

        int pool(int d) {
            return d == 0 ? BUFFERS[kind] : BUFFERS[parent.kind] / PORTS[parent.kind];
        }

        List<Node> path() {
            List<Node> path = parent == null ? new ArrayList<>() : parent.path();
            if (parent != null) {
                path.add(this);
            }
            return path;
        }
    }

    static final class Hop {
        Node node;
        int number, credits, cells, sent;
    }

    static final class Pipe {
        int number, kind, wanted, granted, order;
        Node device;
        List<List<Hop>> hops = new ArrayList<>();
        int[] queue = {0, 0};
        int[] delivered = {0, 0};

        Hop over(int d, Node node) {
            if (d >= hops.size()) {
                return null;
            }
            return hops.get(d).stream().filter(h -> h.node == node).findFirst().orElse(null);
        }

        int before(int d, Hop hop) {
            int at = hops.get(d).indexOf(hop);
            return at == 0 ? queue[d] : hops.get(d).get(at - 1).cells;
        }
    }

    static final class Planned {
        int kind, generation, parent, port;
    }

    /** A call that changes something: its name and arguments. */
    record Call(String name, int[] args) { }

    private TreeMap<Integer, Node> nodes = new TreeMap<>();
    private TreeMap<Integer, Pipe> pipes = new TreeMap<>();
    private String text = "";
    private int patience = 3, ticks, delivered, lost, opened;
    private List<Call> past = new ArrayList<>();
    private final List<List<Call>> slots = new ArrayList<>(Arrays.asList(null, null));

    PlainFabric() {
        putHost();
    }

    private void putHost() {
        Node host = new Node();
        host.kind = 4;
        host.generation = 3;
        nodes.put(0, host);
    }

    private void note(String name, int... args) {
        past.add(new Call(name, args));
    }

    int type(int letter) {
        if (letter < 0 || letter > 127) {
            return BAD;
        }
        if (text.length() == 60) {
            return FULL;
        }
        text += (char) letter;
        return text.length();
    }

    int clearText() {
        int length = text.length();
        text = "";
        return length;
    }

    // A recursive reader of the grammar. A fault ends it by an exception that carries the index.
    private static final class Fault extends RuntimeException {
        private static final long serialVersionUID = 1L;
        final int at;

        Fault(int at) {
            this.at = at;
        }
    }

    private final class Reader {
        int at = 0;
        List<Planned> found = new ArrayList<>();

        int peek() {
            while (at < text.length() && text.charAt(at) == ' ') {
                at++;
            }
            return at < text.length() ? text.charAt(at) : -1;
        }

        void routers(int parent, int ports, int depth) {
            int port = 0;
            while (peek() >= 0 && "hsdn".indexOf(peek()) >= 0) {
                if (port == ports || found.size() == 7 || depth == 4) {
                    throw new Fault(at);
                }
                Planned planned = new Planned();
                planned.kind = "hsdn".indexOf(peek());
                planned.parent = parent;
                planned.port = port++;
                found.add(planned);
                int number = found.size();
                at++;
                if (peek() < '1' || peek() > '3') {
                    throw new Fault(at);
                }
                planned.generation = peek() - '0';
                at++;
                if (peek() == '(') {
                    at++;
                    routers(number, PORTS[planned.kind], depth + 1);
                    if (peek() != ')') {
                        throw new Fault(at);
                    }
                    at++;
                }
            }
        }

        List<Planned> all() {
            routers(0, 2, 0);
            if (peek() != -1) {
                throw new Fault(at);
            }
            return found;
        }
    }

    int fault() {
        try {
            new Reader().all();
            return NONE;
        } catch (Fault fault) {
            return fault.at;
        }
    }

    int build() {
        if (fault() != NONE) {
            return STATE;
        }
        List<Planned> planned = new Reader().all();
        for (int t = 0; t < 10; t++) {
            close(t);
        }
        while (nodes.size() > 1) {
            unplug(nodes.lastKey());
        }
        for (Planned p : planned) {
            plug(p.parent, p.port, p.kind, p.generation);
        }
        text = "";
        return nodes.size();
    }

    int plug(int parent, int port, int kind, int generation) {
        Node upper = nodes.get(parent);
        if (upper == null || port < 0 || port >= PORTS[upper.kind]) {
            return BAD;
        }
        if (kind < 0 || kind > 3 || generation < 1 || generation > 3) {
            return BAD;
        }
        if (child(upper, port) != null) {
            return OCCUPIED;
        }
        if (upper.depth == 4) {
            return TOO_DEEP;
        }
        if (nodes.size() == 8) {
            return FULL;
        }
        Node node = new Node();
        while (nodes.containsKey(node.number)) {
            node.number++;
        }
        node.kind = kind;
        node.generation = generation;
        node.parent = upper;
        node.port = port;
        node.depth = upper.depth + 1;
        nodes.put(node.number, node);
        note("plug", parent, port, kind, generation);
        return node.number;
    }

    private Node child(Node upper, int port) {
        return nodes.values().stream().filter(n -> n.parent == upper && n.port == port).findFirst().orElse(null);
    }

    int unplug(int router) {
        Node node = nodes.get(router);
        if (node == null || router == 0) {
            return BAD;
        }
        note("unplug", router);
        for (Pipe pipe : new ArrayList<>(pipes.values())) {
            if (pipe.device.path().contains(node)) {
                remove(pipe);
            }
        }
        int before = nodes.size();
        nodes.values().removeIf(n -> n.path().contains(node));
        distribute();
        return before - nodes.size();
    }

    private Node linkOf(int router) {
        return router == 0 ? null : nodes.get(router);
    }

    int widen(int router, boolean on) {
        Node node = linkOf(router);
        if (node == null) {
            return BAD;
        }
        if (node.linkGeneration() != 3) {
            return WRONG_KIND;
        }
        if (!on && reserve(node) > 4 * 2 - 1) {
            return STATE;
        }
        note("widen", router, on ? 1 : 0);
        int before = node.wide ? 1 : 0;
        node.wide = on;
        distribute();
        return before;
    }

    int router(int router, int what) {
        Node node = nodes.get(router);
        if (node == null || what < 0 || what > 5) {
            return BAD;
        }
        int below = (int) nodes.values().stream()
            .filter(n -> n != node && (router == 0 || n.path().contains(node))).count();
        return new int[] {node.kind, node.generation, node.parent == null ? NONE : node.parent.number,
            node.parent == null ? NONE : node.port, node.depth, below}[what];
    }

    int plugged(int router, int port) {
        Node node = nodes.get(router);
        if (node == null || port < 0 || port >= PORTS[node.kind]) {
            return BAD;
        }
        Node found = child(node, port);
        return found == null ? NONE : found.number;
    }

    private int reserve(Node node) {
        return pipes.values().stream().filter(p -> p.kind == 0 && p.device.path().contains(node))
            .mapToInt(p -> p.granted).sum();
    }

    private int spare(Node node) {
        return node.capacity(0) - 1 - reserve(node);
    }

    private int roomOfPath(Node node) {
        return node.path().stream().mapToInt(this::spare).min().orElse(12);
    }

    int link(int router, int what) {
        Node node = linkOf(router);
        if (node == null || what < 0 || what > 6) {
            return BAD;
        }
        int state = List.of("awake", "drowsy", "asleep", "waking").indexOf(node.state);
        return new int[] {node.linkGeneration(), node.wide ? 1 : 0, reserve(node), node.capacity(0) - 1, state,
            node.idle, state == 3 ? node.wakeTicks : 0}[what];
    }

    int capacity(int router, int d) {
        Node node = linkOf(router);
        return node == null || d < 0 || d > 1 ? BAD : node.capacity(d);
    }

    private int free(Node node, int d) {
        return node.pool(d) - pipes.values().stream().map(p -> p.over(d, node)).filter(h -> h != null)
            .mapToInt(h -> h.credits).sum();
    }

    int freeCredits(int router, int d) {
        Node node = linkOf(router);
        return node == null || d < 0 || d > 1 ? BAD : free(node, d);
    }

    int load(int router, int d) {
        Node node = linkOf(router);
        return node == null || d < 0 || d > 1 ? BAD : Float.floatToIntBits(node.load[d]);
    }

    int open(int kind, int router, int wanted) {
        Node device = nodes.get(router);
        if (kind < 0 || kind > 2 || device == null || wanted < 1 || wanted > 12) {
            return BAD;
        }
        if (device.kind != kind + 1) {
            return WRONG_KIND;
        }
        Pipe pipe = new Pipe();
        pipe.kind = kind;
        pipe.device = device;
        pipe.wanted = wanted;
        boolean full = pipes.values().stream().filter(p -> p.kind == kind).count() == BAYS[kind];
        boolean poor = false;
        for (int d = 0; d < (kind == 0 ? 1 : 2); d++) {
            List<Node> path = device.path();
            if (d == 1) {
                java.util.Collections.reverse(path);
            }
            List<Hop> hops = new ArrayList<>();
            for (Node node : path) {
                Hop hop = new Hop();
                hop.node = node;
                hop.number = freeNumber(d, node);
                hop.credits = Math.min(MOST[kind], free(node, d));
                full |= hop.number > 15;
                poor |= hop.credits < NEEDED[kind];
                hops.add(hop);
            }
            pipe.hops.add(hops);
        }
        if (full) {
            return FULL;
        }
        if (poor) {
            return NO_CREDIT;
        }
        if (kind == 0) {
            pipe.granted = Math.min(wanted, roomOfPath(device));
            if (pipe.granted == 0) {
                return NO_BANDWIDTH;
            }
            for (Node node : device.path()) {
                if (node.state.equals("asleep")) {
                    node.state = "waking";
                    node.wakeTicks = 2;
                }
                if (node.state.equals("drowsy")) {
                    node.state = "awake";
                }
            }
        }
        while (pipes.containsKey(pipe.number)) {
            pipe.number++;
        }
        pipe.order = opened++;
        pipes.put(pipe.number, pipe);
        note("open", kind, router, wanted);
        return pipe.number;
    }

    private int freeNumber(int d, Node node) {
        int number = 8;
        for (boolean again = true; again;) {
            int tried = number;
            again = pipes.values().stream().map(p -> p.over(d, node)).anyMatch(h -> h != null && h.number == tried);
            number += again ? 1 : 0;
        }
        return number;
    }

    private int remove(Pipe pipe) {
        int cells = pipe.queue[0] + pipe.queue[1];
        for (List<Hop> hops : pipe.hops) {
            for (Hop hop : hops) {
                cells += hop.cells;
            }
        }
        pipes.remove(pipe.number);
        lost += cells;
        return cells;
    }

    private void distribute() {
        pipes.values().stream().filter(p -> p.kind == 0 && p.granted < p.wanted)
            .sorted(Comparator.comparingInt(p -> p.order))
            .forEach(p -> p.granted = Math.min(p.wanted, p.granted + roomOfPath(p.device)));
    }

    int close(int tunnel) {
        Pipe pipe = pipes.get(tunnel);
        if (pipe == null) {
            return BAD;
        }
        note("close", tunnel);
        int cells = remove(pipe);
        distribute();
        return cells;
    }

    int claim(int tunnel, int wanted) {
        Pipe pipe = pipes.get(tunnel);
        if (pipe == null || wanted < 1 || wanted > 12) {
            return BAD;
        }
        if (pipe.kind != 0) {
            return WRONG_KIND;
        }
        note("claim", tunnel, wanted);
        pipe.wanted = wanted;
        if (wanted < pipe.granted) {
            pipe.granted = wanted;
        }
        distribute();
        return pipe.granted;
    }

    int offer(int tunnel, int d, int cells) {
        Pipe pipe = pipes.get(tunnel);
        if (pipe == null || d < 0 || d > 1 || cells < 1 || cells > 99) {
            return BAD;
        }
        if (d == 1 && pipe.kind == 0) {
            return WRONG_KIND;
        }
        if (pipe.queue[d] + cells > 99) {
            return FULL;
        }
        note("offer", tunnel, d, cells);
        return pipe.queue[d] += cells;
    }

    int tunnel(int tunnel, int what) {
        Pipe pipe = pipes.get(tunnel);
        if (pipe == null || what < 0 || what > 5) {
            return BAD;
        }
        boolean video = pipe.kind == 0;
        return new int[] {pipe.kind, pipe.device.number, video ? pipe.wanted : NONE, video ? pipe.granted : NONE,
            pipe.device.depth, pipe.order}[what];
    }

    int hop(int tunnel, int d, int hop, int what) {
        Pipe pipe = pipes.get(tunnel);
        if (pipe == null || d < 0 || d > 1 || what < 0 || what > 3) {
            return BAD;
        }
        if (d >= pipe.hops.size() || hop < 0 || hop >= pipe.hops.get(d).size()) {
            return NONE;
        }
        Hop found = pipe.hops.get(d).get(hop);
        return new int[] {found.node.number, found.number, found.credits, found.cells}[what];
    }

    int cellCount(int tunnel, int d, int what) {
        Pipe pipe = pipes.get(tunnel);
        if (pipe == null || d < 0 || d > 1 || what < 0 || what > 2) {
            return BAD;
        }
        if (d >= pipe.hops.size()) {
            return NONE;
        }
        int buffered = pipe.hops.get(d).stream().mapToInt(h -> h.cells).sum();
        return new int[] {pipe.queue[d], buffered, pipe.delivered[d]}[what];
    }

    int tick(int n) {
        if (n < 1 || n > 50) {
            return BAD;
        }
        note("tick", n);
        int before = delivered;
        for (int i = 0; i < n; i++) {
            passOneTick();
        }
        return delivered - before;
    }

    private List<Node> links() {
        return new ArrayList<>(nodes.tailMap(1).values());
    }

    private void passOneTick() {
        for (Node node : links()) {
            if (node.state.equals("waking")) {
                if (--node.wakeTicks == 0) {
                    node.state = "awake";
                }
            } else if (node.state.equals("asleep") && cellWaits(node)) {
                node.state = "waking";
                node.wakeTicks = 2;
            }
        }
        for (Node node : links()) {
            boolean sends = node.state.equals("awake") || node.state.equals("drowsy");
            node.sent[0] = sends ? send(node, 0) : 0;
            node.sent[1] = sends ? send(node, 1) : 0;
        }
        for (Pipe pipe : pipes.values()) {
            for (int d = 0; d < pipe.hops.size(); d++) {
                move(pipe, d);
            }
        }
        for (Node node : links()) {
            for (int d = 0; d < 2; d++) {
                float used = node.sent[d] / (float) node.capacity(d);
                node.load[d] = node.load[d] * 0.875f + used * 0.125f;
            }
            rest(node, node.sent[0] == 0 && node.sent[1] == 0);
        }
        ticks++;
    }

    private boolean cellWaits(Node node) {
        for (Pipe pipe : pipes.values()) {
            for (int d = 0; d < pipe.hops.size(); d++) {
                Hop hop = pipe.over(d, node);
                if (hop != null && pipe.before(d, hop) > 0) {
                    return true;
                }
            }
        }
        return false;
    }

    private int send(Node node, int d) {
        int left = node.capacity(d);
        List<Pipe> users = new ArrayList<>(pipes.values());
        users.removeIf(p -> p.over(d, node) == null);
        List<Pipe> others = new ArrayList<>(users);
        others.removeIf(p -> p.kind == 0);
        for (Pipe pipe : users) {
            if (pipe.kind == 0) {
                left -= sendOf(pipe, d, node, Math.min(left, pipe.granted));
            }
        }
        int start = 0;
        for (int i = others.size() - 1; i >= 0; i--) {
            if (others.get(i).number > node.last[d]) {
                start = i;
            }
        }
        for (int silent = 0, i = start; silent < others.size() && left > 0; i++) {
            Pipe pipe = others.get(i % others.size());
            int count = sendOf(pipe, d, node, Math.min(left, pipe.kind == 1 ? 2 : 1));
            silent = count == 0 ? silent + 1 : 0;
            if (count > 0) {
                node.last[d] = pipe.number;
            }
            left -= count;
        }
        return node.capacity(d) - left;
    }

    private int sendOf(Pipe pipe, int d, Node node, int most) {
        Hop hop = pipe.over(d, node);
        int can = 0;
        while (can < most && pipe.before(d, hop) > hop.sent && hop.cells + hop.sent < hop.credits) {
            hop.sent++;
            can++;
        }
        return can;
    }

    private void move(Pipe pipe, int d) {
        List<Hop> hops = pipe.hops.get(d);
        for (int i = 0; i < hops.size(); i++) {
            if (i == 0) {
                pipe.queue[d] -= hops.get(0).sent;
            } else {
                hops.get(i - 1).cells -= hops.get(i).sent;
            }
        }
        for (Hop hop : hops) {
            hop.cells += hop.sent;
            hop.sent = 0;
        }
        Hop end = hops.get(hops.size() - 1);
        pipe.delivered[d] += end.cells;
        delivered += end.cells;
        end.cells = 0;
    }

    private void rest(Node node, boolean quiet) {
        String before = node.state;
        boolean on = before.equals("awake") || before.equals("drowsy");
        node.idle = on && quiet ? node.idle + 1 : 0;
        if (before.equals("drowsy")) {
            node.state = quiet ? "asleep" : "awake";
        }
        boolean video = pipes.values().stream().anyMatch(p -> p.kind == 0 && p.over(0, node) != null);
        if (before.equals("awake") && node.idle >= patience && !video) {
            node.state = "drowsy";
        }
    }

    int setPatience(int n) {
        if (n < 1 || n > 9) {
            return BAD;
        }
        note("setPatience", n);
        int before = patience;
        patience = n;
        return before;
    }

    int fairShare(int tunnel, int d) {
        Pipe asked = pipes.get(tunnel);
        if (asked == null || d < 0 || d > 1) {
            return BAD;
        }
        if (asked.kind == 0) {
            return Float.floatToIntBits(d == 0 ? asked.granted : 0);
        }
        TreeMap<Integer, Float> left = new TreeMap<>();
        for (Node node : links()) {
            left.put(node.number, (float) (node.capacity(d) - (d == 0 ? reserve(node) : 0)));
        }
        TreeMap<Integer, Float> share = new TreeMap<>();
        List<Pipe> active = new ArrayList<>(pipes.values());
        active.removeIf(p -> p.kind == 0);
        while (!active.isEmpty()) {
            Node chosen = null;
            float least = 0;
            for (Node node : links()) {
                float weights = 0;
                for (Pipe pipe : active) {
                    weights += pipe.device.path().contains(node) ? 3 - pipe.kind : 0;
                }
                if (weights > 0 && (chosen == null || left.get(node.number) / weights < least)) {
                    chosen = node;
                    least = left.get(node.number) / weights;
                }
            }
            for (Pipe pipe : new ArrayList<>(active)) {
                if (pipe.device.path().contains(chosen)) {
                    share.put(pipe.number, least * (3 - pipe.kind));
                    active.remove(pipe);
                    for (Node node : pipe.device.path()) {
                        left.put(node.number, Math.max(0f, left.get(node.number) - share.get(pipe.number)));
                    }
                }
            }
        }
        return Float.floatToIntBits(share.get(tunnel));
    }

    int room(int router) {
        Node node = nodes.get(router);
        return node == null ? BAD : Math.min(12, roomOfPath(node));
    }

    int bestPort(int generation) {
        if (generation < 1 || generation > 3) {
            return BAD;
        }
        int best = NONE;
        int bestRank = -1;
        for (Node node : nodes.values()) {
            for (int port = 0; port < PORTS[node.kind]; port++) {
                if (node.depth < 4 && child(node, port) == null) {
                    int room = Math.min(roomOfPath(node), 2 * RATES[Math.min(generation, node.generation)] - 1);
                    // One number that orders by room, then by least depth, then by least router, then by least port.
                    int rank = ((room * 8 + 7 - node.depth) * 8 + 7 - node.number) * 8 + 7 - port;
                    if (rank > bestRank) {
                        bestRank = rank;
                        best = 8 * node.number + port;
                    }
                }
            }
        }
        return best;
    }

    private int sumOfOthers(Pipe pipe) {
        return pipes.values().stream().filter(p -> p != pipe && p.kind == 0).mapToInt(p -> p.granted).sum();
    }

    int gain(int tunnel) {
        Pipe pipe = pipes.get(tunnel);
        if (pipe == null) {
            return BAD;
        }
        TreeMap<Integer, Integer> granted = new TreeMap<>();
        pipes.forEach((number, p) -> granted.put(number, p.granted));
        int before = sumOfOthers(pipe);
        pipes.remove(tunnel);
        distribute();
        int after = sumOfOthers(pipe);
        pipes.put(tunnel, pipe);
        pipes.forEach((number, p) -> p.granted = granted.get(number));
        return after - before;
    }

    int bottleneck(int tunnel) {
        Pipe pipe = pipes.get(tunnel);
        if (pipe == null) {
            return BAD;
        }
        return pipe.device.path().stream().min(Comparator.comparingInt(this::spare)).get().number;
    }

    int count(int what) {
        int asleep = (int) nodes.values().stream().filter(n -> n.state.equals("asleep")).count();
        int[] all = {nodes.size(), pipes.size(), ticks, delivered, lost, asleep, patience, text.length(), opened};
        return what < 0 || what >= all.length ? BAD : all[what];
    }

    int save(int slot) {
        if (slot < 0 || slot > 1) {
            return BAD;
        }
        slots.set(slot, new ArrayList<>(past));
        return pipes.size();
    }

    int restore(int slot) {
        if (slot < 0 || slot > 1) {
            return BAD;
        }
        if (slots.get(slot) == null) {
            return STATE;
        }
        nodes = new TreeMap<>();
        pipes = new TreeMap<>();
        putHost();
        patience = 3;
        ticks = delivered = lost = opened = 0;
        past = new ArrayList<>();
        for (Call call : slots.get(slot)) {
            repeat(call.name(), call.args());
        }
        return pipes.size();
    }

    private void repeat(String name, int[] a) {
        switch (name) {
            case "plug" -> plug(a[0], a[1], a[2], a[3]);
            case "unplug" -> unplug(a[0]);
            case "widen" -> widen(a[0], a[1] == 1);
            case "open" -> open(a[0], a[1], a[2]);
            case "close" -> close(a[0]);
            case "claim" -> claim(a[0], a[1]);
            case "offer" -> offer(a[0], a[1], a[2]);
            case "tick" -> tick(a[0]);
            case "setPatience" -> setPatience(a[0]);
            default -> throw new IllegalStateException(name);
        }
    }

    long digest() {
        List<Integer> all = new ArrayList<>();
        for (int what = 0; what < 9; what++) {
            all.add(count(what));
        }
        for (int r = 1; r < 8; r++) {
            if (!nodes.containsKey(r)) {
                all.add(-1);
                continue;
            }
            for (int what = 0; what < 6; what++) {
                all.add(router(r, what));
            }
            for (int what = 0; what < 7; what++) {
                all.add(link(r, what));
            }
            all.addAll(List.of(capacity(r, 0), freeCredits(r, 0), load(r, 0)));
            all.addAll(List.of(capacity(r, 1), freeCredits(r, 1), load(r, 1)));
        }
        for (int t = 0; t < 10; t++) {
            Pipe pipe = pipes.get(t);
            if (pipe == null) {
                all.add(-1);
                continue;
            }
            for (int what = 0; what < 6; what++) {
                all.add(tunnel(t, what));
            }
            for (int d = 0; d < pipe.hops.size(); d++) {
                all.addAll(List.of(cellCount(t, d, 0), cellCount(t, d, 1), cellCount(t, d, 2)));
                for (Hop hop : pipe.hops.get(d)) {
                    all.addAll(List.of(hop.node.number, hop.number, hop.credits, hop.cells));
                }
            }
        }
        long h = 41;
        for (int v : all) {
            h = 31 * h + v;
        }
        return h;
    }
}

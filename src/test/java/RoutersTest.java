/** Promises 1 to 10. */
public final class RoutersTest {
    private static final int BAD = -1, WRONG_KIND = -2, OCCUPIED = -3, TOO_DEEP = -4, FULL = -5, STATE = -8, NONE = -10;
    private static final int MIN = Integer.MIN_VALUE, MAX = Integer.MAX_VALUE;
    private static final Check check = new Check();

    public static void main(String[] args) {
        newObject();
        type();
        clearText();
        fault();
        faultOfNextText();
        build();
        buildClosesTunnels();
        plug();
        plugMakesNewLink();
        unplug();
        unplugDistributesOnce();
        widen();
        widenDistributes();
        router();
        plugged();
        check.end();
    }

    private static void newObject() {
        check.part("promise 1");
        TunnelFabric x = new TunnelFabric();
        int[] counts = {1, 0, 0, 0, 0, 0, 3, 0, 0};
        for (int what = 0; what < counts.length; what++) {
            check.due(counts[what], x.count(what), "count " + what);
        }
        check.due(4, x.router(0, 0), "kind of the host");
        check.due(3, x.router(0, 1), "generation of the host");
        check.due(0, x.router(0, 4), "depth of the host");
        for (int r = 1; r < 8; r++) {
            check.due(BAD, x.router(r, 0), "router " + r);
        }
        for (int t = 0; t < 10; t++) {
            check.due(BAD, x.tunnel(t, 0), "tunnel " + t);
        }
        check.due(STATE, x.restore(0), "restore 0");
        check.due(STATE, x.restore(1), "restore 1");
        check.due(new TunnelFabric().digest(), x.digest(), "digest");
    }

    private static void type() {
        check.part("promise 2");
        TunnelFabric x = new TunnelFabric();
        check.due(BAD, x.type(-1), "type(-1)");
        check.due(BAD, x.type(128), "type(128)");
        check.due(BAD, x.type(MIN), "type(MIN)");
        check.due(BAD, x.type(MAX), "type(MAX)");
        check.due(0, x.count(7), "length");
        check.due(1, x.type(0), "type(0)");
        check.due(2, x.type(127), "type(127)");
        for (int i = 3; i <= 60; i++) {
            check.due(i, x.type(32), "type " + i);
        }
        check.due(FULL, x.type(32), "type 61");
        check.due(BAD, x.type(128), "type(128) when full");
        check.due(60, x.count(7), "length");
        check.due(0, x.fault(), "fault at byte 0");
    }

    private static void clearText() {
        check.part("promise 3");
        TunnelFabric x = new TunnelFabric();
        check.due(0, x.clearText(), "clearText of nothing");
        Fabrics.write(x, "h3x");
        check.due(3, x.clearText(), "clearText");
        check.due(0, x.count(7), "length");
        check.due(NONE, x.fault(), "fault");
        check.due(1, x.type('h'), "type");
        check.due(1, x.clearText(), "clearText");
        Fabrics.write(x, " ".repeat(60));
        check.due(60, x.clearText(), "clearText when full");
        check.due(1, x.type('h'), "type");
    }

    private static void faultIs(int want, String text) {
        TunnelFabric x = new TunnelFabric();
        Fabrics.write(x, text);
        check.due(want, x.fault(), "fault of '" + text + "'");
        check.due(text.length(), x.count(7), "length of '" + text + "'");
    }

    private static void fault() {
        check.part("promise 4");
        faultIs(NONE, "");
        faultIs(NONE, "h3");
        faultIs(NONE, "h1()");
        faultIs(NONE, "s2(d1)n3");
        faultIs(NONE, " h 3 ( s 2 ( ) n 1 ) ");
        faultIs(NONE, "n3()");
        faultIs(NONE, "   ");
        faultIs(1, "h");
        faultIs(2, "h ");
        faultIs(3, "h3(");
        faultIs(5, "h3(s3");
        faultIs(6, "h3(s3 ");
        faultIs(4, "h3(s");
        faultIs(0, "x");
        faultIs(0, "H3");
        faultIs(0, "3");
        faultIs(0, "(");
        faultIs(0, ")");
        faultIs(1, " )");
        faultIs(1, "h4");
        faultIs(1, "h0");
        faultIs(1, "hh");
        faultIs(1, "h(");
        faultIs(1, "h)");
        faultIs(2, "h33");
        faultIs(2, "h3)");
        faultIs(4, "h3()(");
        faultIs(4, "h3()3");
        faultIs(3, "h3((");
        faultIs(3, "h3(3");
        // No port left, an eighth router, depth 5.
        faultIs(6, "h3(n2(s");
        faultIs(4, "h3s3d3");
        faultIs(4, "h3s3d");
        faultIs(3, "n3(s3)");
        faultIs(5, "s3(s3s3)");
        faultIs(9, "h1(s1s1s1s1)");
        faultIs(18, "h3(h3(s3s3s3)s3s3)s3");
        faultIs(NONE, "h3(h3(s3s3s3)s3s3)");
        faultIs(12, "d3(d3(d3(d3(d3))))");
        faultIs(NONE, "d3(d3(d3(d3())))");
        faultIs(2, "h3\t");
        faultIs(60, "h3(" + " ".repeat(57));
        faultIs(6, "h3(s3)(");
        faultIs(3, "h3s(");
        faultIs(4, "h3(s(");
    }

    private static void faultOfNextText() {
        TunnelFabric x = new TunnelFabric();
        Fabrics.write(x, "h3");
        check.due(NONE, x.fault(), "fault of the first text");
        x.clearText();
        Fabrics.write(x, "(");
        check.due(0, x.fault(), "fault of the second text");
        x.clearText();
        Fabrics.write(x, "h3(d");
        check.due(4, x.fault(), "fault of the third text");
        x.clearText();
        Fabrics.write(x, "h3(h3(s3 s3 s3) n3)");
        check.due(NONE, x.fault(), "fault of the fourth text");
        check.due(NONE, x.fault(), "fault of it again");
        check.due(7, x.build(), "build");
        Fabrics.write(x, "h3(h3(s3 s3 s3) n3)");
        check.due(7, x.build(), "build it again");
    }

    private static void routerIs(TunnelFabric x, int router, int kind, int generation, int parent, int port) {
        check.due(kind, x.router(router, 0), "kind of " + router);
        check.due(generation, x.router(router, 1), "generation of " + router);
        check.due(parent, x.router(router, 2), "parent of " + router);
        check.due(port, x.router(router, 3), "port of " + router);
    }

    private static void build() {
        check.part("promise 5");
        TunnelFabric x = new TunnelFabric();
        Fabrics.write(x, "h3(s1 d2(n3) n1) d3 ( s2 )");
        check.due(8, x.build(), "build");
        check.due(0, x.count(7), "length");
        routerIs(x, 1, 0, 3, 0, 0);
        routerIs(x, 2, 1, 1, 1, 0);
        routerIs(x, 3, 2, 2, 1, 1);
        routerIs(x, 4, 3, 3, 3, 0);
        routerIs(x, 5, 3, 1, 1, 2);
        routerIs(x, 6, 2, 3, 0, 1);
        routerIs(x, 7, 1, 2, 6, 0);
        check.due(3, x.router(4, 4), "depth of 4");
        check.due(BAD, x.plug(2, 1, 0, 3), "plug into no port");
        check.due(FULL, x.plug(2, 0, 0, 3), "plug a ninth");
        Fabrics.write(x, "h3(");
        long before = x.digest();
        check.due(STATE, x.build(), "build with a fault");
        check.due(before, x.digest(), "digest after it");
        check.due(3, x.count(7), "length after it");
        x.clearText();
        check.due(1, x.build(), "build of nothing");
        check.due(BAD, x.router(1, 0), "router 1");
    }

    private static void buildClosesTunnels() {
        TunnelFabric x = Fabrics.built("d3 s3");
        x.widen(1, true);
        x.open(1, 1, 1);
        x.open(0, 2, 3);
        x.open(1, 1, 1);
        x.offer(0, 0, 7);
        x.offer(1, 0, 8);
        x.offer(2, 1, 9);
        x.tick(1);
        x.setPatience(5);
        int left = 7 + 8 + 9 - x.count(3);
        Fabrics.write(x, "d3");
        check.due(2, x.build(), "build");
        check.due(0, x.count(1), "tunnels");
        check.due(1, x.count(2), "ticks");
        check.due(left, x.count(4), "lost cells");
        check.due(5, x.count(6), "patience");
        check.due(3, x.count(8), "opened");
        check.due(0, x.link(1, 1), "wide");
        check.due(0, x.link(1, 5), "idle time");
        check.due(0, x.load(1, 0), "load");
        check.due(16, x.freeCredits(1, 0), "credits");
        check.due(0, x.open(1, 1, 1), "open");
        check.due(3, x.tunnel(0, 5), "opened before");
    }

    private static void plug() {
        check.part("promise 6");
        TunnelFabric x = new TunnelFabric();
        check.due(BAD, x.plug(1, 0, 0, 3), "parent absent");
        check.due(BAD, x.plug(-1, 0, 0, 3), "parent -1");
        check.due(BAD, x.plug(8, 0, 0, 3), "parent 8");
        check.due(BAD, x.plug(MIN, MIN, MIN, MIN), "all least");
        check.due(BAD, x.plug(MAX, MAX, MAX, MAX), "all greatest");
        check.due(BAD, x.plug(0, -1, 0, 3), "port -1");
        check.due(BAD, x.plug(0, 2, 0, 3), "port 2 of the host");
        check.due(BAD, x.plug(0, 0, -1, 3), "kind -1");
        check.due(BAD, x.plug(0, 0, 4, 3), "kind HOST");
        check.due(BAD, x.plug(0, 0, 0, 0), "generation 0");
        check.due(BAD, x.plug(0, 0, 0, 4), "generation 4");
        check.due(1, x.plug(0, 1, 0, 2), "plug a hub");
        routerIs(x, 1, 0, 2, 0, 1);
        check.due(OCCUPIED, x.plug(0, 1, 3, 1), "port in use");
        check.due(BAD, x.plug(0, 1, 4, 1), "port in use, wrong kind");
        check.due(BAD, x.plug(1, 3, 0, 1), "port 3 of a hub");
        check.due(2, x.plug(1, 2, 3, 1), "plug a network");
        check.due(BAD, x.plug(2, 0, 0, 1), "a network has no port");
        check.due(3, x.plug(1, 0, 1, 1), "plug a screen");
        check.due(BAD, x.plug(3, 1, 1, 1), "port 1 of a screen");
        check.due(4, x.plug(3, 0, 2, 1), "plug a disk");
        check.due(BAD, x.plug(4, 1, 2, 1), "port 1 of a disk");
        check.due(5, x.plug(4, 0, 0, 1), "plug a hub at depth 4");
        check.due(4, x.router(5, 4), "depth");
        check.due(TOO_DEEP, x.plug(5, 0, 0, 1), "depth 5");
        check.due(BAD, x.plug(5, 3, 0, 1), "depth 5, no such port");
        check.due(6, x.plug(0, 0, 0, 1), "plug");
        check.due(7, x.plug(6, 0, 0, 1), "plug");
        check.due(8, x.count(0), "routers");
        check.due(FULL, x.plug(6, 1, 0, 1), "a ninth");
        check.due(TOO_DEEP, x.plug(5, 0, 0, 1), "a ninth at depth 5");
        check.due(OCCUPIED, x.plug(6, 0, 0, 1), "a ninth in a port in use");
        check.due(BAD, x.plug(6, 0, 0, 5), "a ninth of generation 5");
        check.due(1, x.unplug(2), "unplug 2");
        check.due(2, x.plug(7, 2, 2, 2), "the least number again");
    }

    private static void plugMakesNewLink() {
        TunnelFabric x = Fabrics.built("d3");
        x.widen(1, true);
        x.open(1, 1, 1);
        x.offer(0, 0, 50);
        x.tick(3);
        x.unplug(1);
        check.due(1, x.plug(0, 0, 2, 2), "plug again");
        int[] link = {2, 0, 0, 3, 0, 0, 0};
        for (int what = 0; what < link.length; what++) {
            check.due(link[what], x.link(1, what), "link " + what);
        }
        check.due(0, x.load(1, 0), "load");
        check.due(16, x.freeCredits(1, 0), "credits");
        x.tick(2);
        x.unplug(1);
        x.plug(0, 0, 2, 2);
        check.due(0, x.link(1, 5), "idle time");
        x.open(1, 1, 1);
        x.tick(4);
        x.offer(0, 0, 1);
        x.tick(1);
        check.due(2, x.link(1, 6), "ticks to wake");
        x.unplug(1);
        x.plug(0, 0, 2, 2);
        check.due(0, x.link(1, 4), "state");
        check.due(0, x.link(1, 6), "ticks to wake");
    }

    private static void unplug() {
        check.part("promise 7");
        TunnelFabric x = Fabrics.built("h3(d3(s3)h3(n3 d3))s3");
        check.due(BAD, x.unplug(0), "the host");
        check.due(BAD, x.unplug(-1), "-1");
        check.due(BAD, x.unplug(8), "8");
        check.due(BAD, x.unplug(MIN), "MIN");
        x.open(2, 5, 1);
        x.open(1, 2, 1);
        x.open(1, 6, 1);
        x.open(0, 7, 1);
        x.offer(0, 1, 3);
        x.offer(1, 0, 5);
        x.offer(2, 0, 4);
        check.due(3, x.unplug(4), "a hub with two below");
        check.due(5, x.count(0), "routers");
        check.due(2, x.count(1), "tunnels");
        check.due(7, x.count(4), "lost cells");
        check.due(BAD, x.tunnel(0, 0), "tunnel 0");
        check.due(1, x.tunnel(1, 0), "tunnel 1");
        check.due(BAD, x.router(5, 0), "router 5");
        check.due(NONE, x.plugged(1, 1), "its port");
        check.due(BAD, x.unplug(4), "again");
        check.due(18, x.freeCredits(1, 0), "credits of the hub");
        check.due(3, x.unplug(1), "the first hub");
        check.due(12, x.count(4), "lost cells");
        check.due(2, x.count(0), "routers");
        check.due(1, x.count(1), "tunnels");
        check.due(1, x.unplug(7), "the last one");
        check.due(1, x.count(0), "routers");
    }

    private static void unplugDistributesOnce() {
        TunnelFabric x = Fabrics.built("h3(s3 s3)");
        x.open(0, 2, 6);
        x.open(0, 3, 6);
        check.due(1, x.tunnel(1, 3), "granted");
        check.due(1, x.unplug(2), "unplug");
        check.due(6, x.tunnel(1, 3), "granted then");
        check.due(6, x.link(1, 2), "reserve");
    }

    private static void widen() {
        check.part("promise 8");
        TunnelFabric x = Fabrics.built("h3(s3 d2) h2(s3)");
        check.due(BAD, x.widen(0, true), "the host");
        check.due(BAD, x.widen(-1, true), "-1");
        check.due(BAD, x.widen(6, false), "absent");
        check.due(BAD, x.widen(8, true), "8");
        check.due(WRONG_KIND, x.widen(3, true), "generation 2");
        check.due(WRONG_KIND, x.widen(3, false), "generation 2, off");
        check.due(WRONG_KIND, x.widen(5, true), "generation 3 below 2");
        check.due(0, x.widen(1, false), "off, not wide");
        check.due(0, x.widen(1, true), "on");
        check.due(12, x.capacity(1, 0), "down");
        check.due(4, x.capacity(1, 1), "up");
        check.due(11, x.link(1, 3), "limit");
        check.due(1, x.widen(1, true), "on again");
        check.due(1, x.widen(1, false), "off");
        check.due(8, x.capacity(1, 1), "up");
        x.widen(1, true);
        x.widen(2, true);
        x.open(0, 2, 8);
        check.due(STATE, x.widen(1, false), "off with a reserve of 8");
        check.due(1, x.link(1, 1), "still wide");
        check.due(7, x.claim(0, 7), "claim 7");
        check.due(1, x.widen(1, false), "off with a reserve of 7");
        check.due(WRONG_KIND, x.widen(3, false), "wrong kind before state");
    }

    private static void widenDistributes() {
        TunnelFabric x = Fabrics.built("s3");
        x.open(0, 1, 12);
        check.due(7, x.tunnel(0, 3), "granted");
        x.offer(0, 0, 9);
        x.tick(1);
        int load = x.load(1, 0);
        check.due(Float.floatToIntBits(4f / 8f * 0.125f), load, "load");
        check.due(0, x.widen(1, true), "on");
        check.due(11, x.tunnel(0, 3), "granted then");
        check.due(load, x.load(1, 0), "load stays");
        check.due(STATE, x.widen(1, false), "off");
    }

    private static void router() {
        check.part("promise 9");
        TunnelFabric x = Fabrics.built("s3 h2(d1(n3) h3)");
        int[][] rows = {{4, 3, NONE, NONE, 0, 5}, {1, 3, 0, 0, 1, 0}, {0, 2, 0, 1, 1, 3}, {2, 1, 2, 0, 2, 1},
            {3, 3, 3, 0, 3, 0}, {0, 3, 2, 1, 2, 0}};
        for (int r = 0; r < rows.length; r++) {
            for (int what = 0; what < 6; what++) {
                check.due(rows[r][what], x.router(r, what), "router " + r + ", " + what);
            }
            check.due(BAD, x.router(r, 6), "what 6");
            check.due(BAD, x.router(r, -1), "what -1");
        }
        int[] wrong = {-1, 6, 7, 8, MIN, MAX};
        for (int r : wrong) {
            check.due(BAD, x.router(r, 0), "router " + r);
        }
    }

    private static void plugged() {
        check.part("promise 10");
        TunnelFabric x = new TunnelFabric();
        x.plug(0, 1, 0, 3);
        x.plug(1, 2, 2, 3);
        x.plug(1, 0, 3, 3);
        check.due(NONE, x.plugged(0, 0), "host 0");
        check.due(1, x.plugged(0, 1), "host 1");
        check.due(BAD, x.plugged(0, 2), "host 2");
        check.due(BAD, x.plugged(0, -1), "host -1");
        check.due(3, x.plugged(1, 0), "hub 0");
        check.due(NONE, x.plugged(1, 1), "hub 1");
        check.due(2, x.plugged(1, 2), "hub 2");
        check.due(BAD, x.plugged(1, 3), "hub 3");
        check.due(NONE, x.plugged(2, 0), "disk 0");
        check.due(BAD, x.plugged(2, 1), "disk 1");
        check.due(BAD, x.plugged(3, 0), "network 0");
        check.due(BAD, x.plugged(4, 0), "absent");
        check.due(BAD, x.plugged(-1, 0), "-1");
        check.due(BAD, x.plugged(MAX, MAX), "MAX");
    }
}

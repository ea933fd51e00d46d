/** Promises 11 to 14. */
public final class LinksTest {
    private static final int BAD = -1;
    private static final int MIN = Integer.MIN_VALUE, MAX = Integer.MAX_VALUE;
    private static final int[] NO_LINKS = {0, -1, 8, 7, MIN, MAX};
    private static final Check check = new Check();

    public static void main(String[] args) {
        link();
        linkReserve();
        linkSleep();
        capacity();
        freeCredits();
        load();
        loadOfWideLink();
        loadBits();
        check.end();
    }

    private static void link() {
        check.part("promise 11");
        TunnelFabric x = Fabrics.built("h3(s2 d3(n1)) h1(s3)");
        int[] generations = {0, 3, 2, 3, 1, 1, 1};
        int[] limits = {0, 7, 3, 7, 1, 1, 1};
        for (int r = 1; r <= 6; r++) {
            check.due(generations[r], x.link(r, 0), "generation of " + r);
            check.due(0, x.link(r, 1), "wide of " + r);
            check.due(0, x.link(r, 2), "reserve of " + r);
            check.due(limits[r], x.link(r, 3), "limit of " + r);
            check.due(0, x.link(r, 4), "state of " + r);
            check.due(0, x.link(r, 5), "idle time of " + r);
            check.due(0, x.link(r, 6), "ticks to wake of " + r);
            check.due(BAD, x.link(r, 7), "what 7");
            check.due(BAD, x.link(r, -1), "what -1");
        }
        for (int r : NO_LINKS) {
            check.due(BAD, x.link(r, 0), "link " + r);
        }
    }

    private static void linkReserve() {
        TunnelFabric x = Fabrics.built("h3(s3 s3) d3");
        x.open(0, 2, 4);
        x.open(0, 3, 2);
        x.open(1, 4, 9);
        check.due(6, x.link(1, 2), "reserve of 1");
        check.due(4, x.link(2, 2), "reserve of 2");
        check.due(2, x.link(3, 2), "reserve of 3");
        check.due(0, x.link(4, 2), "reserve of 4");
        x.widen(1, true);
        check.due(1, x.link(1, 1), "wide");
        check.due(11, x.link(1, 3), "limit when wide");
    }

    private static void linkSleep() {
        TunnelFabric x = Fabrics.built("d3");
        x.open(1, 1, 1);
        int[] states = {0, 0, 1, 2, 2};
        int[] idle = {1, 2, 3, 4, 0};
        for (int i = 0; i < states.length; i++) {
            x.tick(1);
            check.due(states[i], x.link(1, 4), "state after tick " + (i + 1));
            check.due(idle[i], x.link(1, 5), "idle time after tick " + (i + 1));
        }
        x.offer(0, 1, 1);
        x.tick(1);
        check.due(3, x.link(1, 4), "waking");
        check.due(2, x.link(1, 6), "ticks to wake");
        x.tick(1);
        check.due(1, x.link(1, 6), "ticks to wake");
        check.due(0, x.link(1, 5), "idle time");
        x.tick(1);
        check.due(0, x.link(1, 6), "ticks to wake");
        check.due(0, x.link(1, 4), "awake");
    }

    private static void capacity() {
        check.part("promise 12");
        TunnelFabric x = Fabrics.built("h3(s1 s2 s3)d1(s3)");
        int[] capacities = {0, 8, 2, 4, 8, 2, 2};
        for (int r = 1; r <= 6; r++) {
            check.due(capacities[r], x.capacity(r, 0), "down " + r);
            check.due(capacities[r], x.capacity(r, 1), "up " + r);
            check.due(BAD, x.capacity(r, 2), "direction 2");
            check.due(BAD, x.capacity(r, -1), "direction -1");
        }
        x.widen(1, true);
        check.due(12, x.capacity(1, 0), "down, wide");
        check.due(4, x.capacity(1, 1), "up, wide");
        for (int r : NO_LINKS) {
            check.due(BAD, x.capacity(r, 0), "link " + r);
        }
    }

    private static void freeCredits() {
        check.part("promise 13");
        TunnelFabric x = Fabrics.built("h3(s3(n3) d3(n3) n3) n1");
        int[] down = {0, 24, 12, 16, 16, 16, 16, 16};
        int[] up = {0, 20, 8, 12, 8, 16, 8, 20};
        for (int r = 1; r <= 7; r++) {
            check.due(down[r], x.freeCredits(r, 0), "down " + r);
            check.due(up[r], x.freeCredits(r, 1), "up " + r);
            check.due(BAD, x.freeCredits(r, 2), "direction 2");
            check.due(BAD, x.freeCredits(r, -1), "direction -1");
        }
        x.open(0, 2, 1);
        x.open(1, 4, 1);
        x.open(2, 5, 1);
        check.due(24 - 4 - 6 - 3, x.freeCredits(1, 0), "down 1");
        check.due(20 - 6 - 3, x.freeCredits(1, 1), "up 1");
        check.due(12 - 4, x.freeCredits(2, 0), "down 2");
        check.due(8, x.freeCredits(2, 1), "up 2");
        check.due(16 - 6 - 3, x.freeCredits(4, 0), "down 4");
        check.due(8 - 6 - 2, x.freeCredits(4, 1), "up 4");
        check.due(16 - 3, x.freeCredits(5, 1), "up 5");
        x.close(1);
        check.due(8 - 2, x.freeCredits(4, 1), "up 4 after close");
        for (int r : NO_LINKS) {
            if (r != 7) {
                check.due(BAD, x.freeCredits(r, 0), "link " + r);
            }
        }
    }

    private static void load() {
        check.part("promise 14");
        TunnelFabric x = Fabrics.built("d2");
        x.open(1, 1, 1);
        check.due(0, x.load(1, 0), "at first");
        x.offer(0, 0, 7);
        x.offer(0, 1, 1);
        float down = 0;
        float up = 0;
        int[] sentDown = {4, 3, 0, 0, 0, 0, 0};
        int[] sentUp = {1, 0, 0, 0, 0, 0, 0};
        for (int i = 0; i < sentDown.length; i++) {
            x.tick(1);
            down = down * 0.875f + sentDown[i] / 4f * 0.125f;
            up = up * 0.875f + sentUp[i] / 4f * 0.125f;
            check.due(Float.floatToIntBits(down), x.load(1, 0), "down after tick " + (i + 1));
            check.due(Float.floatToIntBits(up), x.load(1, 1), "up after tick " + (i + 1));
        }
        check.due(BAD, x.load(1, 2), "direction 2");
        check.due(BAD, x.load(1, -1), "direction -1");
        for (int r : NO_LINKS) {
            check.due(BAD, x.load(r, 0), "link " + r);
        }
    }

    private static void loadOfWideLink() {
        TunnelFabric x = Fabrics.built("d3");
        x.widen(1, true);
        x.open(1, 1, 1);
        x.open(1, 1, 1);
        x.offer(0, 0, 5);
        x.offer(1, 0, 5);
        x.tick(1);
        check.due(Float.floatToIntBits(10 / 12f * 0.125f), x.load(1, 0), "10 of 12 cells");
    }

    /** A load that fades away becomes subnormal, and its bits must still be those of the float. */
    private static void loadBits() {
        TunnelFabric x = Fabrics.built("d3");
        x.widen(1, true);
        x.open(1, 1, 1);
        x.offer(0, 0, 6);
        x.tick(1);
        float load = 6 / 12f * 0.125f;
        check.due(Float.floatToIntBits(load), x.load(1, 0), "6 of 12 cells");
        for (int i = 0; i < 40; i++) {
            x.tick(20);
            for (int k = 0; k < 20; k++) {
                load = load * 0.875f;
            }
            check.due(Float.floatToIntBits(load), x.load(1, 0), "after " + (20 * i + 20) + " idle ticks");
        }
        check.dueTrue(load < Float.MIN_NORMAL && load > 0, "the load became subnormal");
    }
}

/** Promises 24 to 28. */
public final class AnalysisTest {
    private static final int BAD = -1, NONE = -10;
    private static final int MIN = Integer.MIN_VALUE, MAX = Integer.MAX_VALUE;
    private static final int[] NO_TUNNELS = {-1, 9, 10, MIN, MAX};
    private static final Check check = new Check();

    public static void main(String[] args) {
        fairShareArguments();
        fairShareByWeight();
        fairShareInRounds();
        fairShareBesideVideo();
        fairShareRounded();
        room();
        bestPort();
        bestPortAtTheEdges();
        gain();
        gainChangesNothing();
        bottleneck();
        check.end();
    }

    private static void shareIs(float want, TunnelFabric x, int tunnel, int direction) {
        check.due(Float.floatToIntBits(want), x.fairShare(tunnel, direction),
            "fairShare(" + tunnel + ", " + direction + ")");
    }

    private static void fairShareArguments() {
        check.part("promise 24, arguments");
        TunnelFabric x = Fabrics.built("s3 d3");
        check.due(BAD, x.fairShare(0, 0), "not open");
        x.open(0, 1, 5);
        x.open(1, 2, 1);
        check.due(BAD, x.fairShare(0, 2), "direction 2");
        check.due(BAD, x.fairShare(1, 2), "direction 2");
        check.due(BAD, x.fairShare(1, -1), "direction -1");
        for (int t : NO_TUNNELS) {
            check.due(BAD, x.fairShare(t, 0), "tunnel " + t);
        }
        shareIs(5f, x, 0, 0);
        shareIs(0f, x, 0, 1);
        shareIs(8f, x, 1, 0);
        shareIs(8f, x, 1, 1);
    }

    private static void fairShareByWeight() {
        check.part("promise 24");
        TunnelFabric x = Fabrics.built("h3(d3 n3)");
        x.open(1, 2, 1);
        x.open(2, 3, 1);
        shareIs(8f / 3f * 2f, x, 0, 0);
        shareIs(8f / 3f, x, 1, 0);
        x.widen(1, true);
        shareIs(8f, x, 0, 0);
        shareIs(4f, x, 1, 0);
        shareIs(4f / 3f * 2f, x, 0, 1);
        shareIs(4f / 3f, x, 1, 1);
    }

    private static void fairShareInRounds() {
        TunnelFabric x = Fabrics.built("h3(d1 n3 n2)");
        x.open(1, 2, 1);
        x.open(2, 3, 1);
        x.open(2, 4, 1);
        // The link of the disk is chosen first; the rest of the hub's link goes to the packets.
        shareIs(2f, x, 0, 0);
        shareIs(3f, x, 1, 0);
        shareIs(3f, x, 2, 0);
        x.open(2, 4, 1);
        // Then the networks share 6 cells; each packet tunnel gets 2, and the slow network is full.
        shareIs(2f, x, 1, 0);
        shareIs(2f, x, 2, 0);
        shareIs(2f, x, 3, 0);
        x.open(1, 2, 1);
        shareIs(1f, x, 0, 0);
        shareIs(1f, x, 4, 1);
    }

    private static void fairShareBesideVideo() {
        TunnelFabric x = Fabrics.built("h3(d3 n3 s3)");
        x.open(1, 2, 1);
        x.open(2, 3, 1);
        x.open(0, 4, 5);
        shareIs(2f, x, 0, 0);
        shareIs(1f, x, 1, 0);
        shareIs(8f / 3f * 2f, x, 0, 1);
        shareIs(5f, x, 2, 0);
        shareIs(0f, x, 2, 1);
        x.claim(2, 7);
        shareIs(1f / 3f * 2f, x, 0, 0);
        shareIs(1f / 3f, x, 1, 0);
    }

    /** What is left of a link is worked out cell by cell in floats, in the order of the tunnels. */
    private static void fairShareRounded() {
        TunnelFabric x = Fabrics.built("h3(h2(d3 n3) n3)");
        x.open(1, 3, 1);
        x.open(2, 4, 1);
        x.open(2, 5, 1);
        float level = 4f / 3f;
        shareIs(level * 2f, x, 0, 0);
        shareIs(level, x, 1, 0);
        shareIs(8f - level * 2f - level, x, 2, 0);
    }

    private static void room() {
        check.part("promise 25");
        TunnelFabric x = Fabrics.built("h3(s3 d2(n3)) n1");
        check.due(12, x.room(0), "host");
        check.due(7, x.room(1), "hub");
        check.due(7, x.room(2), "screen");
        check.due(3, x.room(3), "disk");
        check.due(3, x.room(4), "network below it");
        check.due(1, x.room(5), "slow network");
        check.due(BAD, x.room(6), "absent");
        check.due(BAD, x.room(-1), "-1");
        check.due(BAD, x.room(8), "8");
        check.due(BAD, x.room(MAX), "MAX");
        x.open(0, 2, 5);
        check.due(2, x.room(1), "hub");
        check.due(2, x.room(4), "network");
        check.due(12, x.room(0), "host");
        x.widen(1, true);
        check.due(6, x.room(1), "hub, wide");
        check.due(2, x.room(2), "screen");
        check.due(3, x.room(4), "network");
        x.claim(0, 7);
        check.due(0, x.room(2), "screen");
        x.close(0);
        check.due(11, x.room(1), "hub, wide and free");
    }

    private static void bestPort() {
        check.part("promise 26");
        TunnelFabric x = new TunnelFabric();
        check.due(BAD, x.bestPort(0), "generation 0");
        check.due(BAD, x.bestPort(4), "generation 4");
        check.due(BAD, x.bestPort(MIN), "generation MIN");
        check.due(0, x.bestPort(3), "the host");
        x.plug(0, 0, 0, 3);
        check.due(1, x.bestPort(3), "the other port of the host");
        x.plug(0, 1, 1, 1);
        check.due(8, x.bestPort(3), "the hub");
        check.due(8, x.bestPort(1), "the hub, before the slow screen");
        x.plug(1, 0, 0, 3);
        check.due(9, x.bestPort(3), "the next port of the hub");
        x.plug(1, 1, 1, 3);
        x.plug(1, 2, 1, 3);
        check.due(16, x.bestPort(1), "the slow screen is nearer to the host");
        check.due(24, x.bestPort(3), "the hub below the hub, before the screens");
        x.open(0, 4, 7);
        check.due(16, x.bestPort(3), "the slow screen, as the hub's link is full");
    }

    private static void bestPortAtTheEdges() {
        TunnelFabric x = Fabrics.built("d3(d3(d3(d3)))n3");
        check.due(NONE, x.bestPort(3), "the depth 4 is left out");
        TunnelFabric y = Fabrics.built("h3(s3(s3)n3 n3)h3(n3)");
        check.due(8, y.count(0), "all routers are present");
        check.due(8 * 6 + 1, y.bestPort(3), "the second hub");
        TunnelFabric z = Fabrics.built("n3 h2(h3 s1)");
        z.widen(1, true);
        check.due(8 * 2 + 2, z.bestPort(3), "the least depth of equal rooms");
        check.due(8 * 2 + 2, z.bestPort(1), "the slower one");
        TunnelFabric w = Fabrics.built("n3 n3");
        check.due(NONE, w.bestPort(1), "no free port at all");
        TunnelFabric full = Fabrics.built("s1 n3");
        full.open(0, 1, 1);
        check.due(8, full.bestPort(3), "a port with no room");
    }

    private static void gain() {
        check.part("promise 27");
        TunnelFabric x = Fabrics.built("h3(s3 s2 d3)");
        check.due(BAD, x.gain(0), "not open");
        x.open(0, 2, 6);
        x.open(0, 3, 12);
        x.open(1, 4, 1);
        check.due(1, x.tunnel(1, 3), "granted");
        check.due(2, x.gain(0), "the slow screen gains up to 3");
        check.due(0, x.gain(1), "the other one has what it wants");
        check.due(0, x.gain(2), "storage");
        x.claim(0, 12);
        check.due(1, x.gain(1), "the other one wants more");
        for (int t : NO_TUNNELS) {
            check.due(BAD, x.gain(t), "tunnel " + t);
        }
    }

    private static void gainChangesNothing() {
        TunnelFabric x = Fabrics.built("h3(s3 s2 d3)");
        x.open(0, 2, 5);
        x.open(0, 3, 12);
        x.offer(0, 0, 50);
        x.tick(2);
        long before = x.digest();
        check.due(1, x.gain(0), "gain(0)");
        check.due(before, x.digest(), "digest after it");
        check.due(2, x.tunnel(1, 3), "granted");
        x.close(0);
        check.due(3, x.tunnel(1, 3), "granted when it is closed");
    }

    private static void bottleneck() {
        check.part("promise 28");
        TunnelFabric x = Fabrics.built("h3(s3 h2(d3 n1))");
        check.due(BAD, x.bottleneck(0), "not open");
        x.open(0, 2, 1);
        x.open(1, 4, 1);
        x.open(2, 5, 1);
        check.due(1, x.bottleneck(0), "of equal ones the one nearest to the host");
        check.due(3, x.bottleneck(1), "the slow hub, nearest to the host");
        check.due(5, x.bottleneck(2), "the slow network");
        x.claim(0, 5);
        check.due(1, x.bottleneck(1), "the first hub, with the video");
        x.widen(1, true);
        check.due(2, x.bottleneck(0), "the screen");
        check.due(3, x.bottleneck(1), "the slow hub");
        for (int t : NO_TUNNELS) {
            check.due(BAD, x.bottleneck(t), "tunnel " + t);
        }
    }
}

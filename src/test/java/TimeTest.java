/** Promises 22 and 23, and the rules by which a tick passes. */
public final class TimeTest {
    private static final int BAD = -1;
    private static final Check check = new Check();

    public static void main(String[] args) {
        tickArguments();
        videoFirst();
        videoAtMostGranted();
        twoVideosInOrder();
        creditsHoldCellsBack();
        decisionsByTheBeginning();
        turns();
        turnsRememberTheLast();
        turnsEndWhenNobodySends();
        turnsOfNewLink();
        sleepAndWake();
        wakeAlongThePath();
        drowsyButBusy();
        videoKeepsAwake();
        setPatience();
        check.end();
    }

    private static void tickArguments() {
        check.part("promise 22, arguments");
        TunnelFabric x = Fabrics.built("d3");
        int[] wrong = {0, -1, 51, Integer.MIN_VALUE, Integer.MAX_VALUE};
        for (int n : wrong) {
            check.due(BAD, x.tick(n), "tick " + n);
        }
        check.due(0, x.count(2), "ticks");
        check.due(0, x.tick(1), "tick 1");
        check.due(0, x.tick(50), "tick 50");
        check.due(51, x.count(2), "ticks");
        x.open(1, 1, 1);
        x.offer(0, 0, 99);
        x.offer(0, 1, 99);
        check.due(198, x.tick(50), "all are delivered");
        check.due(198, x.count(3), "delivered");
    }

    private static void videoFirst() {
        check.part("promise 22, video first");
        TunnelFabric x = Fabrics.built("h2(s3 d3)");
        x.open(1, 3, 1);
        x.open(0, 2, 3);
        x.offer(0, 0, 10);
        x.offer(1, 0, 10);
        x.tick(1);
        check.due(7, x.cellCount(1, 0, 0), "video sends 3 of 4");
        check.due(9, x.cellCount(0, 0, 0), "storage sends the fourth");
        check.due(3, x.hop(1, 0, 0, 3), "buffer of video");
        check.due(1, x.hop(0, 0, 0, 3), "buffer of storage");
        check.due(4, x.tick(1), "the second links deliver");
        check.due(6, x.cellCount(1, 0, 0), "video has one credit left and sends 1");
        check.due(6, x.cellCount(0, 0, 0), "storage sends 3, in turns of 2 and 1");
    }

    private static void videoAtMostGranted() {
        TunnelFabric x = Fabrics.built("s3");
        x.open(0, 1, 3);
        x.offer(0, 0, 10);
        check.due(3, x.tick(1), "granted 3");
        x.claim(0, 12);
        check.due(4, x.tick(1), "granted 7, but 4 credits");
        check.due(3, x.tick(1), "3 are left");
        check.due(0, x.tick(1), "none is left");
    }

    private static void twoVideosInOrder() {
        TunnelFabric x = Fabrics.built("h2(s3 s3)");
        x.open(0, 2, 1);
        x.open(0, 3, 2);
        x.offer(0, 0, 9);
        x.offer(1, 0, 9);
        x.tick(1);
        check.due(8, x.cellCount(0, 0, 0), "tunnel 0");
        check.due(7, x.cellCount(1, 0, 0), "tunnel 1");
        check.due(Float.floatToIntBits(3 / 4f * 0.125f), x.load(1, 0), "load of the shared link");
    }

    private static void creditsHoldCellsBack() {
        check.part("promise 22, credits");
        TunnelFabric x = Fabrics.built("h3(n1)");
        x.open(2, 2, 1);
        x.offer(0, 0, 20);
        int[] queue = {17, 17, 15, 14, 12};
        int[] buffer = {3, 1, 2, 1, 2};
        int[] delivered = {0, 2, 3, 5, 6};
        for (int i = 0; i < 5; i++) {
            x.tick(1);
            check.due(queue[i], x.cellCount(0, 0, 0), "queue after tick " + (i + 1));
            check.due(buffer[i], x.hop(0, 0, 0, 3), "buffer after tick " + (i + 1));
            check.due(delivered[i], x.cellCount(0, 0, 2), "delivered after tick " + (i + 1));
        }
    }

    private static void decisionsByTheBeginning() {
        TunnelFabric x = Fabrics.built("h3(h3(d3))");
        x.open(1, 3, 1);
        x.offer(0, 0, 7);
        check.due(0, x.tick(1), "one hop a tick");
        check.due(6, x.hop(0, 0, 0, 3), "first buffer");
        check.due(0, x.tick(1), "one hop a tick");
        check.due(0, x.hop(0, 0, 0, 3), "first buffer, which was full at the beginning");
        check.due(6, x.hop(0, 0, 1, 3), "second buffer");
        check.due(6, x.tick(1), "delivered");
        check.due(1, x.hop(0, 0, 0, 3), "first buffer");
        check.due(0, x.tick(1), "one hop a tick");
        check.due(1, x.tick(1), "delivered");
    }

    private static void turns() {
        check.part("promise 22, turns");
        TunnelFabric x = Fabrics.built("h1(d3 n3)");
        x.open(1, 2, 1);
        x.open(2, 3, 1);
        x.offer(0, 0, 20);
        x.offer(1, 0, 20);
        int[] storage = {18, 17, 16, 15};
        int[] packets = {20, 19, 18, 17};
        int[] delivered = {0, 2, 2, 2};
        for (int i = 0; i < 4; i++) {
            check.due(delivered[i], x.tick(1), "delivered in tick " + (i + 1));
            check.due(storage[i], x.cellCount(0, 0, 0), "storage after tick " + (i + 1));
            check.due(packets[i], x.cellCount(1, 0, 0), "packets after tick " + (i + 1));
        }
        TunnelFabric y = Fabrics.built("h3(d3 n3)");
        y.open(1, 2, 1);
        y.open(2, 3, 1);
        y.offer(0, 0, 20);
        y.offer(1, 0, 20);
        y.tick(1);
        check.due(14, y.cellCount(0, 0, 0), "storage: three turns of 2");
        check.due(18, y.cellCount(1, 0, 0), "packets: two turns of 1 in between");
    }

    private static void turnsRememberTheLast() {
        TunnelFabric x = Fabrics.built("h1(n3 n3)");
        x.open(2, 2, 1);
        x.open(2, 2, 1);
        x.open(2, 3, 1);
        for (int t = 0; t < 3; t++) {
            x.offer(t, 1, 20);
        }
        x.tick(1);
        // Upward the links of the networks carry 2 cells a tick: tunnels 0 and 1 share one of them.
        check.due(19, x.cellCount(0, 1, 0), "tunnel 0");
        check.due(19, x.cellCount(1, 1, 0), "tunnel 1");
        check.due(18, x.cellCount(2, 1, 0), "tunnel 2");
        check.due(2, x.tick(1), "the link of the hub delivers 2");
        int[] first = {1, 1, 0};
        deliveredUp(x, first);
        x.tick(1);
        int[] second = {2, 1, 1};
        deliveredUp(x, second);
        x.tick(1);
        int[] third = {2, 2, 2};
        deliveredUp(x, third);
        x.close(2);
        x.open(2, 3, 1);
        x.offer(2, 1, 20);
        x.tick(1);
        int[] fourth = {3, 3, 0};
        deliveredUp(x, fourth);
    }

    private static void deliveredUp(TunnelFabric x, int[] want) {
        for (int t = 0; t < want.length; t++) {
            check.due(want[t], x.cellCount(t, 1, 2), "delivered of tunnel " + t);
        }
    }

    private static void turnsEndWhenNobodySends() {
        TunnelFabric x = Fabrics.built("h3(n3 d3)");
        x.open(2, 2, 1);
        x.open(1, 3, 1);
        x.offer(0, 0, 1);
        x.offer(1, 0, 3);
        x.tick(1);
        check.due(0, x.cellCount(0, 0, 0), "tunnel 0");
        check.due(0, x.cellCount(1, 0, 0), "tunnel 1");
        check.due(Float.floatToIntBits(4 / 8f * 0.125f), x.load(1, 0), "load");
        check.due(4, x.tick(1), "delivered");
    }

    private static void turnsOfNewLink() {
        TunnelFabric x = Fabrics.built("n1");
        x.open(2, 1, 1);
        x.open(2, 1, 1);
        x.open(2, 1, 1);
        offerDown(x, 3);
        x.tick(1);
        int[] first = {1, 1, 0};
        deliveredDown(x, first);
        x.unplug(1);
        x.plug(0, 0, 3, 1);
        for (int t = 0; t < 3; t++) {
            x.open(2, 1, 1);
        }
        offerDown(x, 3);
        x.tick(1);
        deliveredDown(x, first);
        x.tick(1);
        int[] second = {2, 1, 1};
        deliveredDown(x, second);
    }

    private static void offerDown(TunnelFabric x, int tunnels) {
        for (int t = 0; t < tunnels; t++) {
            x.offer(t, 0, 20);
        }
    }

    private static void deliveredDown(TunnelFabric x, int[] want) {
        for (int t = 0; t < want.length; t++) {
            check.due(want[t], x.cellCount(t, 0, 2), "delivered of tunnel " + t);
        }
    }

    private static void sleepAndWake() {
        check.part("promise 22, sleep");
        TunnelFabric x = Fabrics.built("d3");
        x.open(1, 1, 1);
        x.tick(4);
        check.due(1, x.count(5), "asleep");
        x.tick(9);
        check.due(1, x.count(5), "asleep still");
        x.offer(0, 0, 9);
        check.due(2, x.link(1, 4), "asleep until a tick");
        check.due(0, x.tick(1), "starts waking");
        check.due(3, x.link(1, 4), "waking");
        check.due(0, x.tick(1), "waking");
        check.due(6, x.tick(1), "awake and sending");
        check.due(3, x.tick(1), "the rest");
        check.due(0, x.link(1, 5), "idle time");
        x.tick(3);
        check.due(1, x.link(1, 4), "drowsy");
        check.due(3, x.link(1, 5), "idle time");
        x.tick(1);
        check.due(2, x.link(1, 4), "asleep");
    }

    private static void wakeAlongThePath() {
        TunnelFabric x = Fabrics.built("h3(d3)");
        x.open(1, 2, 1);
        x.tick(4);
        check.due(2, x.count(5), "asleep");
        x.offer(0, 1, 1);
        x.tick(1);
        check.due(3, x.link(2, 4), "the first hop upward wakes");
        check.due(2, x.link(1, 4), "the second one does not");
        x.tick(2);
        check.due(1, x.hop(0, 1, 0, 3), "the cell has passed the first hop");
        check.due(2, x.link(1, 4), "asleep");
        x.tick(1);
        check.due(3, x.link(1, 4), "waking for the cell in the buffer");
        check.due(0, x.tick(1), "waking");
        check.due(1, x.tick(1), "delivered");
    }

    private static void drowsyButBusy() {
        TunnelFabric x = Fabrics.built("d3");
        x.open(1, 1, 1);
        x.tick(3);
        check.due(1, x.link(1, 4), "drowsy");
        x.offer(0, 1, 1);
        check.due(1, x.tick(1), "a drowsy link sends");
        check.due(0, x.link(1, 4), "awake");
        check.due(0, x.link(1, 5), "idle time");
        x.setPatience(1);
        x.tick(1);
        check.due(1, x.link(1, 4), "drowsy");
        x.offer(0, 0, 1);
        x.tick(1);
        check.due(0, x.link(1, 4), "awake, and not drowsy in the same tick");
    }

    private static void videoKeepsAwake() {
        TunnelFabric x = Fabrics.built("h3(s3 s3)");
        x.open(0, 2, 1);
        x.tick(20);
        check.due(0, x.link(1, 4), "awake");
        check.due(20, x.link(1, 5), "idle time");
        check.due(0, x.link(2, 4), "awake");
        check.due(2, x.link(3, 4), "asleep");
        x.close(0);
        check.due(0, x.link(1, 4), "awake");
        x.tick(1);
        check.due(1, x.link(1, 4), "drowsy at once");
        check.due(21, x.link(1, 5), "idle time");
    }

    private static void setPatience() {
        check.part("promise 23");
        TunnelFabric x = Fabrics.built("d3");
        int[] wrong = {0, -1, 10, Integer.MIN_VALUE, Integer.MAX_VALUE};
        for (int n : wrong) {
            check.due(BAD, x.setPatience(n), "setPatience " + n);
        }
        check.due(3, x.count(6), "patience");
        check.due(3, x.setPatience(1), "setPatience 1");
        check.due(1, x.setPatience(9), "setPatience 9");
        check.due(9, x.count(6), "patience");
        x.tick(8);
        check.due(0, x.link(1, 4), "awake");
        x.tick(1);
        check.due(1, x.link(1, 4), "drowsy");
        TunnelFabric y = Fabrics.built("d3");
        y.tick(2);
        y.setPatience(1);
        check.due(0, y.link(1, 4), "awake until a tick");
        y.tick(1);
        check.due(1, y.link(1, 4), "drowsy");
    }
}

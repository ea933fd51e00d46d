/** Promises 15 to 21. */
public final class TunnelsTest {
    private static final int BAD = -1, WRONG_KIND = -2, FULL = -5, NO_CREDIT = -6, NO_BANDWIDTH = -7, NONE = -10;
    private static final int MIN = Integer.MIN_VALUE, MAX = Integer.MAX_VALUE;
    private static final int[] NO_TUNNELS = {-1, 9, 10, MIN, MAX};
    private static final Check check = new Check();

    public static void main(String[] args) {
        openArguments();
        openBays();
        openCredits();
        openNeedsFourCredits();
        openWithOneCredit();
        openAtDepthFour();
        openInPlaceOfAnother();
        openBandwidth();
        openHopNumbers();
        openWithoutHopNumber();
        openWakesLinks();
        close();
        closeDistributesInOrder();
        claim();
        offer();
        tunnel();
        hop();
        cellCount();
        check.end();
    }

    private static void refused(int want, TunnelFabric x, int kind, int router, int wanted) {
        long before = x.digest();
        check.due(want, x.open(kind, router, wanted), "open(" + kind + ", " + router + ", " + wanted + ")");
        check.due(before, x.digest(), "digest after the refusal");
    }

    private static void openArguments() {
        check.part("promise 15, arguments");
        TunnelFabric x = Fabrics.built("h3(s3 d3 n3)");
        refused(BAD, x, -1, 2, 1);
        refused(BAD, x, 3, 2, 1);
        refused(BAD, x, 0, -1, 1);
        refused(BAD, x, 0, 5, 1);
        refused(BAD, x, 0, 8, 1);
        refused(BAD, x, 0, 2, 0);
        refused(BAD, x, 0, 2, 13);
        refused(BAD, x, 1, 3, 0);
        refused(BAD, x, 2, 4, 13);
        refused(BAD, x, 1, 2, 13);
        refused(BAD, x, MIN, MIN, MIN);
        refused(BAD, x, MAX, MAX, MAX);
        int[] devices = {2, 3, 4};
        for (int kind = 0; kind < 3; kind++) {
            for (int r = 0; r <= 4; r++) {
                if (r != devices[kind]) {
                    refused(WRONG_KIND, x, kind, r, 1);
                }
            }
        }
        for (int kind = 0; kind < 3; kind++) {
            check.due(kind, x.open(kind, devices[kind], 12), "open " + kind);
        }
    }

    private static void openBays() {
        check.part("promise 15, bays");
        TunnelFabric x = Fabrics.built("h3(s3 s3 s3)");
        check.due(0, x.open(0, 2, 1), "video");
        check.due(1, x.open(0, 3, 1), "video");
        refused(FULL, x, 0, 4, 1);
        x.close(0);
        check.due(0, x.open(0, 4, 1), "video again");
        TunnelFabric y = Fabrics.built("d3(d3(n3)) n3");
        check.due(0, y.open(1, 1, 1), "storage");
        check.due(1, y.open(2, 4, 1), "packets");
        check.due(2, y.open(2, 4, 1), "packets");
        check.due(3, y.open(2, 4, 1), "packets");
        check.due(4, y.open(2, 4, 1), "packets");
        refused(FULL, y, 2, 4, 1);
        refused(FULL, y, 2, 3, 1);
        refused(WRONG_KIND, y, 2, 1, 1);
    }

    private static void openCredits() {
        check.part("promise 15, credits");
        TunnelFabric x = Fabrics.built("h3(d3 d3)");
        check.due(0, x.open(1, 2, 1), "storage");
        check.due(1, x.open(1, 2, 1), "storage");
        refused(NO_CREDIT, x, 1, 2, 1);
        int[][] credits = {{6, 6, 6, 6}, {6, 6, 2, 6}, {6, 6, 6, 6}, {6, 6, 2, 2}};
        check.due(2, x.open(1, 3, 1), "storage");
        check.due(3, x.open(1, 3, 1), "storage");
        for (int t = 0; t < 4; t++) {
            check.due(credits[t][0], x.hop(t, 0, 0, 2), "credits down 0 of " + t);
            check.due(credits[t][1], x.hop(t, 0, 1, 2), "credits down 1 of " + t);
            check.due(credits[t][2], x.hop(t, 1, 0, 2), "credits up 0 of " + t);
            check.due(credits[t][3], x.hop(t, 1, 1, 2), "credits up 1 of " + t);
        }
        check.due(0, x.freeCredits(1, 0), "credits left down");
        check.due(0, x.freeCredits(1, 1), "credits left up");
        refused(FULL, x, 1, 3, 1);
        TunnelFabric y = Fabrics.built("n3");
        y.open(2, 1, 1);
        check.due(3, y.hop(0, 0, 0, 2), "packets down");
        check.due(3, y.hop(0, 1, 0, 2), "packets up");
    }

    private static void openWithOneCredit() {
        TunnelFabric x = Fabrics.built("d3(d3(n3))");
        x.open(2, 3, 1);
        x.open(2, 3, 1);
        x.open(2, 3, 1);
        x.open(1, 2, 1);
        check.due(1, x.freeCredits(2, 0), "credits left down");
        check.due(1, x.freeCredits(2, 1), "credits left up");
        check.due(4, x.open(2, 3, 1), "packets");
        check.due(1, x.hop(4, 0, 1, 2), "credits down");
        check.due(1, x.hop(4, 1, 1, 2), "credits up");
        check.due(3, x.hop(4, 1, 0, 2), "credits of the first hop up");
        refused(NO_CREDIT, x, 1, 1, 1);
        refused(NO_CREDIT, x, 1, 2, 1);
    }

    private static void openAtDepthFour() {
        TunnelFabric x = Fabrics.built("d3(d3(d3(s3)))");
        check.due(0, x.open(0, 4, 9), "video");
        check.due(4, x.tunnel(0, 4), "links of its path");
        for (int i = 0; i < 4; i++) {
            check.due(i + 1, x.hop(0, 0, i, 0), "link of hop " + i);
        }
        x.offer(0, 0, 5);
        check.due(4, x.tick(4), "delivered over four hops");
        TunnelFabric y = Fabrics.built("h3(h3(h3(n3)))");
        check.due(0, y.open(2, 4, 1), "packets");
        for (int i = 0; i < 4; i++) {
            check.due(i + 1, y.hop(0, 0, i, 0), "link of hop " + i);
            check.due(4 - i, y.hop(0, 1, i, 0), "link of hop " + i + " upward");
        }
        y.offer(0, 1, 2);
        check.due(0, y.tick(3), "delivered in three ticks");
        check.due(2, y.tick(1), "delivered in the fourth");
    }

    private static void openInPlaceOfAnother() {
        TunnelFabric x = Fabrics.built("s3 d3");
        x.open(1, 2, 1);
        x.offer(0, 1, 9);
        x.close(0);
        check.due(0, x.open(0, 1, 1), "video with the number of storage");
        check.due(WRONG_KIND, x.offer(0, 1, 1), "offer upward");
        check.due(NONE, x.hop(0, 1, 0, 0), "hop upward");
        check.due(NONE, x.cellCount(0, 1, 0), "cells upward");
    }

    private static void openNeedsFourCredits() {
        TunnelFabric x = Fabrics.built("h3(d3(s1) d3 n3)");
        x.open(1, 2, 1);
        x.open(1, 4, 1);
        x.open(1, 4, 1);
        check.due(6, x.freeCredits(1, 0), "credits left");
        check.due(3, x.open(0, 3, 1), "video");
        check.due(4, x.hop(3, 0, 0, 2), "credits of video");
        x.close(3);
        check.due(3, x.open(2, 5, 1), "packets");
        check.due(3, x.freeCredits(1, 0), "credits left");
        refused(NO_CREDIT, x, 0, 3, 1);
        x.close(1);
        check.due(1, x.open(0, 3, 9), "video");
        refused(NO_BANDWIDTH, x, 0, 3, 1);
    }

    private static void openBandwidth() {
        check.part("promise 15, bandwidth");
        TunnelFabric x = Fabrics.built("h3(s3 s2) s1");
        check.due(0, x.open(0, 2, 5), "open");
        check.due(5, x.tunnel(0, 3), "granted");
        check.due(1, x.open(0, 3, 12), "open");
        check.due(2, x.tunnel(1, 3), "granted what is left");
        check.due(12, x.tunnel(1, 2), "wanted");
        x.close(1);
        x.claim(0, 7);
        refused(NO_BANDWIDTH, x, 0, 3, 1);
        check.due(1, x.open(0, 4, 3), "another path");
        check.due(1, x.tunnel(1, 3), "granted on a slow link");
        refused(FULL, x, 0, 3, 1);
        TunnelFabric y = Fabrics.built("h1(d1(s1) d1 d1)");
        y.open(0, 3, 1);
        refused(NO_BANDWIDTH, y, 0, 3, 1);
        y.open(1, 4, 1);
        y.open(1, 4, 1);
        y.open(1, 5, 1);
        check.due(24 - 4 - 18, y.freeCredits(1, 0), "credits left");
        refused(NO_CREDIT, y, 0, 3, 1);
    }

    private static void openHopNumbers() {
        check.part("promise 15, hop numbers");
        TunnelFabric x = Fabrics.built("h3(s3 d3 n3)");
        x.open(0, 2, 1);
        x.open(1, 3, 1);
        x.open(2, 4, 1);
        x.open(2, 4, 1);
        check.due(8, x.hop(0, 0, 0, 1), "video, first link");
        check.due(8, x.hop(0, 0, 1, 1), "video, second link");
        check.due(9, x.hop(1, 0, 0, 1), "storage, first link");
        check.due(8, x.hop(1, 0, 1, 1), "storage, second link");
        check.due(8, x.hop(1, 1, 0, 1), "storage, up");
        check.due(8, x.hop(1, 1, 1, 1), "storage, up to the host");
        check.due(10, x.hop(2, 0, 0, 1), "packets, first link");
        check.due(9, x.hop(2, 1, 1, 1), "packets, up to the host");
        check.due(11, x.hop(3, 0, 0, 1), "packets, first link");
        check.due(9, x.hop(3, 0, 1, 1), "packets, second link");
        x.close(1);
        x.open(0, 2, 1);
        check.due(9, x.hop(1, 0, 0, 1), "the least free number again");
        check.due(9, x.hop(1, 0, 1, 1), "second link");
        x.open(1, 3, 1);
        check.due(12, x.hop(4, 0, 0, 1), "storage, first link");
        check.due(8, x.hop(4, 1, 1, 1), "storage, up to the host");
    }

    /** Eight tunnels come to use one link by taking what credits others leave: then no hop number is left. */
    private static void openWithoutHopNumber() {
        TunnelFabric x = Fabrics.built("h3(d3(n3) d3(s3) n3)");
        check.due(0, x.open(0, 5, 1), "video");
        check.due(1, x.open(0, 5, 1), "video");
        check.due(2, x.open(1, 2, 1), "storage");
        check.due(3, x.open(1, 4, 1), "storage");
        check.due(4, x.open(2, 6, 1), "packets");
        check.due(5, x.open(1, 4, 1), "storage with one credit");
        check.due(1, x.hop(5, 0, 0, 2), "its credits");
        x.close(2);
        check.due(2, x.open(2, 6, 1), "packets");
        check.due(6, x.open(2, 6, 1), "packets");
        x.close(3);
        check.due(3, x.open(2, 3, 1), "packets");
        refused(FULL, x, 2, 3, 1);
        check.due(7, x.open(1, 4, 1), "storage");
        int seen = 0;
        for (int t = 0; t < 8; t++) {
            seen |= 1 << x.hop(t, 0, 0, 1);
        }
        check.due(0xff00, seen, "the hop numbers 8 to 15");
        check.due(15, x.hop(7, 0, 0, 1), "the last hop number");
        refused(FULL, x, 1, 2, 1);
        x.close(0);
        refused(NO_CREDIT, x, 1, 2, 1);
        check.due(0, x.open(0, 5, 1), "video again");
        check.due(8, x.hop(0, 0, 0, 1), "its hop number");
    }

    private static void openWakesLinks() {
        check.part("promise 15, sleep");
        TunnelFabric x = Fabrics.built("h3(s3 d3)");
        x.tick(3);
        check.due(1, x.link(1, 4), "drowsy");
        x.open(1, 3, 1);
        check.due(1, x.link(1, 4), "drowsy still, storage does not rouse it");
        x.open(0, 2, 1);
        check.due(0, x.link(1, 4), "awake");
        check.due(0, x.link(2, 4), "awake");
        check.due(3, x.link(1, 5), "the idle time stays");
        check.due(1, x.link(3, 4), "not on the path");
        x.tick(9);
        check.due(0, x.link(1, 4), "awake with video");
        check.due(12, x.link(1, 5), "idle time");
        check.due(2, x.link(3, 4), "asleep");
        x.close(1);
        x.tick(2);
        check.due(2, x.link(1, 4), "asleep");
        x.open(1, 3, 1);
        check.due(2, x.link(1, 4), "asleep still, storage does not wake it");
        x.open(0, 2, 1);
        check.due(3, x.link(1, 4), "waking");
        check.due(2, x.link(1, 6), "ticks to wake");
        check.due(3, x.link(2, 4), "waking");
        x.tick(1);
        x.close(1);
        x.open(0, 2, 1);
        check.due(1, x.link(1, 6), "waking goes on");
        x.tick(1);
        check.due(0, x.link(1, 4), "awake");
    }

    private static void close() {
        check.part("promise 16");
        TunnelFabric x = Fabrics.built("h3(d3)");
        x.open(1, 2, 1);
        x.offer(0, 0, 20);
        x.offer(0, 1, 10);
        x.tick(1);
        check.due(6, x.cellCount(0, 0, 1), "cells in buffers");
        check.due(30, x.close(0), "close");
        check.due(30, x.count(4), "lost cells");
        check.due(0, x.count(1), "tunnels");
        check.due(BAD, x.close(0), "close again");
        check.due(24, x.freeCredits(1, 0), "credits");
        check.due(8, x.freeCredits(2, 1), "credits");
        check.due(0, x.open(1, 2, 1), "open again");
        check.due(0, x.cellCount(0, 0, 0) + x.cellCount(0, 0, 1) + x.cellCount(0, 1, 0), "no cells");
        check.due(0, x.cellCount(0, 0, 2), "none delivered");
        check.due(8, x.hop(0, 0, 0, 1), "hop number");
        x.offer(0, 0, 5);
        x.tick(9);
        check.due(0, x.close(0), "close with all delivered");
        check.due(30, x.count(4), "lost cells");
        for (int t : NO_TUNNELS) {
            check.due(BAD, x.close(t), "close " + t);
        }
    }

    private static void closeDistributesInOrder() {
        TunnelFabric x = Fabrics.built("h3(s3 s3)");
        x.open(0, 2, 6);
        x.open(0, 3, 9);
        check.due(1, x.tunnel(1, 3), "granted");
        check.due(0, x.close(0), "close");
        check.due(7, x.tunnel(1, 3), "granted then");
        x.claim(1, 3);
        check.due(0, x.open(0, 2, 12), "open");
        check.due(4, x.tunnel(0, 3), "granted");
        check.due(3, x.claim(1, 12), "claim");
        x.widen(1, true);
        // Tunnel 1 was opened before tunnel 0, so it comes first: its path has room for 4 more.
        check.due(7, x.tunnel(1, 3), "granted to the one opened first");
        check.due(4, x.tunnel(0, 3), "granted to the one opened later");
    }

    private static void claim() {
        check.part("promise 17");
        TunnelFabric x = Fabrics.built("h3(s3 s3 d3)");
        x.open(0, 2, 5);
        x.open(0, 3, 5);
        x.open(1, 4, 1);
        check.due(BAD, x.claim(0, 0), "wanted 0");
        check.due(BAD, x.claim(0, 13), "wanted 13");
        check.due(BAD, x.claim(2, 13), "wanted 13 for storage");
        check.due(BAD, x.claim(3, 1), "not open");
        check.due(WRONG_KIND, x.claim(2, 1), "storage");
        for (int t : NO_TUNNELS) {
            check.due(BAD, x.claim(t, 1), "claim " + t);
        }
        check.due(5, x.claim(0, 12), "more than there is");
        check.due(12, x.tunnel(0, 2), "wanted");
        check.due(3, x.claim(0, 3), "less");
        check.due(3, x.tunnel(0, 2), "wanted");
        check.due(4, x.tunnel(1, 3), "given on");
        check.due(1, x.claim(0, 1), "least");
        check.due(5, x.tunnel(1, 3), "given on");
        check.due(2, x.claim(0, 12), "what is left");
        check.due(5, x.claim(1, 5), "the same");
        check.due(4, x.claim(1, 4), "less");
        check.due(3, x.tunnel(0, 3), "given to the other");
        check.due(4, x.claim(1, 12), "and not given back");
    }

    private static void offer() {
        check.part("promise 18");
        TunnelFabric x = Fabrics.built("s3 d3");
        x.open(0, 1, 1);
        x.open(1, 2, 1);
        check.due(BAD, x.offer(0, 0, 0), "0 cells");
        check.due(BAD, x.offer(0, 0, 100), "100 cells");
        check.due(BAD, x.offer(0, 2, 1), "direction 2");
        check.due(BAD, x.offer(0, -1, 1), "direction -1");
        check.due(BAD, x.offer(0, 1, 100), "100 cells upward");
        check.due(WRONG_KIND, x.offer(0, 1, 1), "video upward");
        check.due(WRONG_KIND, x.offer(0, 1, 99), "video upward");
        for (int t : NO_TUNNELS) {
            check.due(BAD, x.offer(t, 0, 1), "offer " + t);
        }
        check.due(1, x.offer(0, 0, 1), "1 cell");
        check.due(99, x.offer(0, 0, 98), "98 cells");
        check.due(FULL, x.offer(0, 0, 1), "one too many");
        check.due(99, x.offer(1, 1, 99), "99 cells");
        check.due(FULL, x.offer(1, 1, 99), "too many");
        check.due(7, x.offer(1, 0, 7), "the other direction");
        check.due(FULL, x.offer(1, 0, 93), "100 in all");
        check.due(99, x.offer(1, 0, 92), "99 in all");
        check.due(BAD, x.offer(1, 0, MAX), "MAX cells");
    }

    private static void tunnel() {
        check.part("promise 19");
        TunnelFabric x = Fabrics.built("h3(s3 d3(n3))");
        x.open(1, 3, 4);
        x.close(0);
        x.open(0, 2, 12);
        x.open(1, 3, 4);
        x.open(2, 4, 4);
        int[][] rows = {{0, 2, 12, 7, 2, 1}, {1, 3, NONE, NONE, 2, 2}, {2, 4, NONE, NONE, 3, 3}};
        for (int t = 0; t < rows.length; t++) {
            for (int what = 0; what < 6; what++) {
                check.due(rows[t][what], x.tunnel(t, what), "tunnel " + t + ", " + what);
            }
            check.due(BAD, x.tunnel(t, 6), "what 6");
            check.due(BAD, x.tunnel(t, -1), "what -1");
        }
        check.due(BAD, x.tunnel(3, 0), "not open");
        for (int t : NO_TUNNELS) {
            check.due(BAD, x.tunnel(t, 0), "tunnel " + t);
        }
    }

    private static void hop() {
        check.part("promise 20");
        TunnelFabric x = Fabrics.built("d3 h3(h3(d3 s3))");
        x.open(0, 5, 1);
        x.open(1, 4, 1);
        x.offer(1, 0, 9);
        x.offer(1, 1, 9);
        x.tick(1);
        int[][] down = {{2, 9, 6, 6}, {3, 9, 6, 0}, {4, 8, 6, 0}};
        int[][] up = {{4, 8, 6, 6}, {3, 8, 6, 0}, {2, 8, 6, 0}};
        for (int i = 0; i < 3; i++) {
            for (int what = 0; what < 4; what++) {
                check.due(down[i][what], x.hop(1, 0, i, what), "hop down " + i + ", " + what);
                check.due(up[i][what], x.hop(1, 1, i, what), "hop up " + i + ", " + what);
            }
        }
        check.due(5, x.hop(0, 0, 2, 0), "last hop of video");
        check.due(4, x.hop(0, 0, 2, 2), "credits of video");
        check.due(NONE, x.hop(0, 1, 0, 0), "video upward");
        check.due(NONE, x.hop(1, 0, 3, 0), "hop 3");
        check.due(NONE, x.hop(1, 0, -1, 0), "hop -1");
        check.due(NONE, x.hop(1, 0, MIN, 0), "hop MIN");
        check.due(NONE, x.hop(1, 1, MAX, 3), "hop MAX");
        check.due(BAD, x.hop(1, 0, 3, 4), "what 4");
        check.due(BAD, x.hop(1, 0, 0, -1), "what -1");
        check.due(BAD, x.hop(1, 2, 0, 0), "direction 2");
        check.due(BAD, x.hop(0, 1, 0, 4), "video upward, what 4");
        check.due(BAD, x.hop(1, -1, -1, 0), "direction -1");
        check.due(BAD, x.hop(2, 0, 0, 0), "not open");
        for (int t : NO_TUNNELS) {
            check.due(BAD, x.hop(t, 0, 0, 0), "tunnel " + t);
        }
    }

    private static void cellCount() {
        check.part("promise 21");
        TunnelFabric x = Fabrics.built("h3(d3 s3)");
        x.open(1, 2, 1);
        x.open(0, 3, 2);
        x.offer(0, 0, 20);
        x.offer(0, 1, 5);
        x.tick(1);
        int[][] after1 = {{14, 6, 0}, {0, 5, 0}};
        counts(x, after1);
        x.tick(1);
        int[][] after2 = {{14, 0, 6}, {0, 0, 5}};
        counts(x, after2);
        check.due(0, x.cellCount(1, 0, 0), "video down");
        check.due(NONE, x.cellCount(1, 1, 0), "video upward");
        check.due(BAD, x.cellCount(1, 1, 3), "video upward, what 3");
        check.due(BAD, x.cellCount(0, 0, 3), "what 3");
        check.due(BAD, x.cellCount(0, 0, -1), "what -1");
        check.due(BAD, x.cellCount(0, 2, 0), "direction 2");
        check.due(BAD, x.cellCount(0, -1, 0), "direction -1");
        check.due(BAD, x.cellCount(2, 0, 0), "not open");
        for (int t : NO_TUNNELS) {
            check.due(BAD, x.cellCount(t, 0, 0), "tunnel " + t);
        }
    }

    private static void counts(TunnelFabric x, int[][] want) {
        for (int d = 0; d < 2; d++) {
            for (int what = 0; what < 3; what++) {
                check.due(want[d][what], x.cellCount(0, d, what), "cellCount " + d + ", " + what);
            }
        }
    }
}

import java.math.BigInteger;

/** The boundary cases that the document names in promises 29 to 32, sentence by sentence. */
public final class CountsEdgesTest {
    private static final int BAD = -1;
    private static final Check check = new Check();

    public static void main(String[] args) {
        countArguments();
        countEnds();
        countsOfRefusedCalls();
        saveArguments();
        saveInPlace();
        restoreArguments();
        restoreState();
        restoreEverything();
        restoreLeavesTextAndSlots();
        digestOfEmpty();
        digestOfFull();
        digestOfEach();
        check.end();
    }

    private static void run(String sentence, String script) {
        Script.run(check, sentence, script);
    }

    private static void countArguments() {
        run("promise 29: what, from 0 to 8", """
            count(-1) ! BAD; count(9) ! BAD; count(MIN) ! BAD; count(MAX) ! BAD; count(0) ! 1; count(8) ! 0
            """);
    }

    private static void countEnds() {
        run("promise 29: the number of present routers, from 1 to 8", """
            count(0) = 1
            text 'h3(h3(n3 n3 n3)n3)h3'
            build() = 8; count(0) = 8; unplug(7) = 1; count(0) = 7; plug(0,1,0,1) = 7; count(0) = 8; unplug(1) = 6
            count(0) = 2
            """);
        run("promise 29: the number of open tunnels, from 0 to 10", Fabrics.TEN_TUNNELS + """
            count(1) = 10; count(8) = 10; close(9) = 0; count(1) = 9; unplug(4) = 4; count(1) = 4; unplug(1) = 3
            count(1) = 0
            count(8) = 10
            """);
        run("promise 29: the number of ticks that have passed, beyond those of one call", """
            count(2) = 0; tick(50) = 0; count(2) = 50; tick(50) = 0; tick(1) = 0; count(2) = 101
            """);
        run("promise 29: the cells that were delivered, of closed tunnels too, and those that were lost", """
            text 'd3'
            build() = 2; open(1,1,1) = 0; offer(0,0,20) = 20; tick(1) = 6; count(3) = 6; count(4) = 0; close(0) = 14
            count(3) = 6; count(4) = 14; open(1,1,1) = 0; offer(0,1,7) = 7; tick(1) = 6; count(3) = 12; unplug(1) = 1
            count(4) = 15; count(3) = 12
            """);
        run("promise 29: the number of links that are asleep, from 0 to 7", """
            text 'h3(h3(s3 n3 n3)h3(n3))'
            build() = 8; count(5) = 0; tick(3); count(5) = 0; tick(1); count(5) = 7; open(0,3,1) = 0; count(5) = 4
            unplug(6) = 2; count(5) = 2; build() = 1; count(5) = 0
            """);
        run("promise 29: the patience, from 1 to 9", """
            count(6) = 3; setPatience(1) = 3; count(6) = 1; setPatience(9) = 1; count(6) = 9
            """);
        run("promise 29: the length of the text, from 0 to 60", """
            count(7) = 0; type(0) = 1; count(7) = 1; 59 * type(0)
            count(7) = 60; type(0) ! FULL; count(7) = 60; clearText() = 60; count(7) = 0
            """);
        run("promise 29: how many tunnels have been opened, beyond 10", """
            text 'd3'
            build() = 2; 20 * open(1,1,1)
            count(8) = 3; close(0) = 0; open(1,1,1) = 0; count(8) = 4; 3 * close(0)
            close(1) = 0; close(2) = 0; count(1) = 0; open(1,1,1) = 0; close(0) = 0; open(1,1,1) = 0; close(0) = 0
            open(1,1,1) = 0; close(0) = 0; open(1,1,1) = 0; close(0) = 0; open(1,1,1) = 0; close(0) = 0
            open(1,1,1) = 0; close(0) = 0; open(1,1,1) = 0; tunnel(0,5) = 10; count(8) = 11; count(1) = 1
            """);
    }

    private static void countsOfRefusedCalls() {
        run("promise 29: refused calls count for nothing", Fabrics.TEN_TUNNELS + """
            open(0,5,1) ! FULL; plug(2,0,0,3) ! FULL; offer(0,0,100) ! BAD; tick(51) ! BAD; close(10) ! BAD
            unplug(0) ! BAD
            count(0) = 8; count(1) = 10; count(2) = 0; count(3) = 0; count(4) = 0; count(8) = 10
            """);
    }

    private static void saveArguments() {
        run("promise 30: the slot, 0 or 1", """
            save(-1) ! BAD; save(2) ! BAD; save(MIN) ! BAD; save(MAX) ! BAD; restore(0) ! STATE; restore(1) ! STATE
            save(0) = 0; restore(0) = 0; restore(1) ! STATE; save(1) = 0; restore(1) = 0
            """);
        run("promise 30: a refused save leaves what is saved", """
            text 'd3'
            build() = 2; save(0) = 0; open(1,1,1) = 0; save(1) = 1; open(1,1,1) = 1; save(2) ! BAD; save(-1) ! BAD
            restore(0) = 0; restore(1) = 1
            """);
        run("promise 30: returns the number of open tunnels, from 0 to 10", """
            save(0) = 0
            """ + Fabrics.TEN_TUNNELS + """
            save(1) = 10; count(1) = 10; close(9) = 0; save(0) = 9
            """);
    }

    private static void saveInPlace() {
        run("promise 30: in place of what was saved there", """
            text 'd3'
            build() = 2; open(1,1,1) = 0; save(0) = 1; offer(0,0,5) = 5; open(1,1,1) = 1; save(0) = 2; close(0) = 5
            restore(0) = 2; cellCount(0,0,0) = 5; build() = 1; save(0) = 0; restore(0) = 0; count(0) = 1
            """);
        run("promise 30: each slot by itself", """
            text 'd3'
            build() = 2; open(1,1,1) = 0; save(0) = 1; open(1,1,1) = 1; save(1) = 2; restore(0) = 1; restore(1) = 2
            save(0) = 2; close(0) = 0; save(1) = 1; restore(0) = 2
            """);
        run("promise 30: saving changes nothing", """
            text 's3 d3'
            build() = 3; open(0,1,12) = 0; open(1,2,1) = 1; offer(1,0,9) = 9; tick(1) = 6; save(1) = 2; tick(1) = 3
            cellCount(1,0,2) = 9; count(2) = 2
            """);
    }

    private static void restoreArguments() {
        run("promise 31: the slot, 0 or 1", """
            plug(0,0,DISK,3) = 1; save(0) = 0; save(1) = 0; restore(-1) ! BAD; restore(2) ! BAD; restore(MIN) ! BAD
            restore(MAX) ! BAD; unplug(1) = 1; restore(0) = 0; count(0) = 2; unplug(1) = 1; restore(1) = 0
            count(0) = 2
            """);
        run("promise 31: returns the number of open tunnels, from 0 to 10", """
            save(0) = 0
            """ + Fabrics.TEN_TUNNELS + """
            save(1) = 10; close(5) = 0; restore(0) = 0; count(1) = 0; restore(1) = 10; count(1) = 10; tunnel(9,5) = 9
            """);
    }

    private static void restoreState() {
        run("promise 31: STATE if nothing was saved there", """
            restore(0) ! STATE; restore(1) ! STATE; plug(0,0,DISK,3) = 1; save(1) = 0; restore(0) ! STATE
            restore(1) = 0
            restore(0) ! STATE; open(1,1,1) = 0; restore(0) ! STATE; count(1) = 1
            """);
        run("promise 31: BAD comes before STATE", """
            restore(2) ! BAD; restore(-1) ! BAD; restore(0) ! STATE
            """);
        run("promise 31: it stays saved there", """
            text 'd3'
            build() = 2; open(1,1,1) = 0; offer(0,0,20) = 20; tick(1) = 6; save(0) = 1; tick(1) = 6; restore(0) = 1
            cellCount(0,0,0) = 14; tick(2) = 12; restore(0) = 1; cellCount(0,0,0) = 14; unplug(1) = 1; restore(0) = 1
            cellCount(0,0,0) = 14; cellCount(0,0,2) = 6; count(2) = 1; count(3) = 6; count(4) = 0
            """);
    }

    private static void restoreEverything() {
        run("promise 31: routers and links: width, load, state, idle time, ticks to wake", """
            text 'd3 s2'
            build() = 3; widen(1,true) = 0; open(1,1,1) = 0; offer(0,0,6) = 6; tick(1) = 6; tick(3); link(2,4) = 2
            open(0,2,9) = 1; tick(1); link(1,4) = 2; link(2,6) = 1; link(2,5) = 0; save(0) = 2
            build() = 1
            text 'n1 n1'
            build() = 3; tick(2); restore(0) = 2; link(1,1) = 1; link(1,4) = 2; link(2,4) = 3; link(2,6) = 1
            link(1,5) = 4
            load(1,0) = 0.036636353f; router(1,0) = DISK; router(2,1) = 2; capacity(1,0) = 12; tunnel(1,2) = 9
            tunnel(1,3) = 3; hop(0,0,0,2) = 6; hop(1,0,0,1) = 8; count(5) = 1
            """);
        run("promise 31: everything, over another fabric that has taken all its numbers", """
            text 'h3(s3 d2(n3)) d3'
            build() = 6; widen(1,true) = 0; open(1,5,1) = 0; open(0,2,12) = 1; close(0) = 0; open(2,4,1) = 0
            open(1,3,1) = 2
            offer(0,1,30) = 30; offer(1,0,30) = 30; offer(2,0,30) = 30; tick(4); save(0) = 3; digest() > first
            text 'd1(d2(d3(s1)))h1(n2 n2)'
            build() = 8; open(1,3,1) = 0; open(2,6,1) = 1; open(0,4,1) = 2; open(2,7,1) = 3
            offer(0,1,40) = 40; offer(1,0,40) = 40; offer(2,0,40) = 40; tick(2); save(1) = 4; digest() > second
            restore(0) = 3; digest() = first; tick(6); digest() > later; freeCredits(1,0) > credits
            restore(1) = 4; digest() = second; tick(6); restore(0) = 3; tick(6); digest() = later
            freeCredits(1,0) = credits; restore(1) = 4; digest() = second
            """);
        run("promise 31: everything, over the same routers with other tunnels in the same places", """
            text 'h3(s3 s3)'
            build() = 4; tick(4); open(0,2,6) = 0; open(0,3,6) = 1; close(0) = 0; open(0,2,9) = 0; offer(0,0,5) = 5
            tick(1)
            save(0) = 2; digest() > first; tick(3); close(0); close(1) = 0; open(0,3,1) = 0; open(0,2,1) = 1
            restore(0) = 2; digest() = first; tunnel(0,5) = 2; tunnel(1,5) = 1; link(1,6) = 1; count(8) = 3
            """);
        run("promise 31: everything, over a fabric without routers", """
            text 'd3(d3(d3(d3)))'
            build() = 5; open(1,4,1) = 0; offer(0,0,50) = 50; offer(0,1,50) = 50; tick(3); save(1) = 1
            digest() > first
            build() = 1; restore(1) = 1; digest() = first; tick(9); digest() > later; unplug(1) = 4; restore(1) = 1
            tick(9); digest() = later
            """);
        run("promise 31: ticks, delivered, lost, opened and the patience", """
            text 'd3'
            build() = 2; open(1,1,1) = 0; offer(0,0,20) = 20; tick(2) = 12; close(0) = 8; setPatience(7) = 3
            save(1) = 0
            open(1,1,1) = 0; offer(0,0,20) = 20; tick(50) = 20; setPatience(1) = 7; restore(1) = 0
            count(2) = 2; count(3) = 12; count(4) = 8; count(6) = 7; count(8) = 1; open(1,1,1) = 0; tunnel(0,5) = 1
            """);
        run("promise 31: the tunnel that sent last by turns", """
            text 'n1'
            build() = 2; open(2,1,1) = 0; open(2,1,1) = 1; open(2,1,1) = 2; offer(0,0,9) = 9; offer(1,0,9) = 9
            offer(2,0,9) = 9
            tick(1) = 2; save(0) = 3; tick(1) = 2; restore(0) = 3; tick(1) = 2
            cellCount(0,0,2) = 2; cellCount(1,0,2) = 1; cellCount(2,0,2) = 1
            """);
    }

    private static void restoreLeavesTextAndSlots() {
        run("promise 31: the text stays as it is", """
            text 'h3'
            save(0) = 0
            text '(s3)'
            restore(0) = 0; count(7) = 6; fault() = NONE; build() = 3; restore(0) = 0; count(7) = 0; fault() = NONE
            """);
        run("promise 31: the other slot stays as it is", """
            save(0) = 0; plug(0,0,DISK,3) = 1; save(1) = 0; plug(0,1,DISK,3) = 2; save(0) = 0; restore(1) = 0
            count(0) = 2
            restore(0) = 0; count(0) = 3
            """);
    }

    /** The digest as the document says it, worked out without a bound and brought into a long at the end. */
    private static final class Sum {
        private BigInteger h = BigInteger.valueOf(41);

        void add(long v) {
            h = h.multiply(BigInteger.valueOf(31)).add(BigInteger.valueOf(v));
        }

        void addRouter(TunnelFabric x, int r) {
            for (int what = 0; what <= 5; what++) {
                add(x.router(r, what));
            }
            for (int what = 0; what <= 6; what++) {
                add(x.link(r, what));
            }
            for (int d = 0; d <= 1; d++) {
                add(x.capacity(r, d));
                add(x.freeCredits(r, d));
                add(x.load(r, d));
            }
        }

        void addTunnel(TunnelFabric x, int t) {
            for (int what = 0; what <= 5; what++) {
                add(x.tunnel(t, what));
            }
            int directions = x.tunnel(t, 0) == 0 ? 1 : 2;
            int hops = x.tunnel(t, 4);
            for (int d = 0; d < directions; d++) {
                for (int what = 0; what <= 2; what++) {
                    add(x.cellCount(t, d, what));
                }
                for (int i = 0; i < hops; i++) {
                    for (int what = 0; what <= 3; what++) {
                        add(x.hop(t, d, i, what));
                    }
                }
            }
        }
    }

    private static void digestIsDue(TunnelFabric x) {
        Sum sum = new Sum();
        for (int what = 0; what <= 8; what++) {
            sum.add(x.count(what));
        }
        for (int r = 1; r <= 7; r++) {
            if (x.router(r, 0) == BAD) {
                sum.add(-1);
            } else {
                sum.addRouter(x, r);
            }
        }
        for (int t = 0; t <= 9; t++) {
            if (x.tunnel(t, 0) == BAD) {
                sum.add(-1);
            } else {
                sum.addTunnel(x, t);
            }
        }
        check.due(sum.h.longValue(), x.digest(), "digest()");
    }

    private static void digestOfEmpty() {
        check.part("promise 32: otherwise -1, for all routers and all tunnels");
        digestIsDue(new TunnelFabric());
        check.part("promise 32: otherwise -1, for a router and a tunnel in between");
        TunnelFabric x = Fabrics.built("h3(s3 d3 d3)");
        x.open(1, 3, 1);
        x.open(1, 4, 1);
        x.unplug(2);
        x.close(0);
        digestIsDue(x);
    }

    private static void digestOfFull() {
        check.part("promise 32: all routers, all tunnels, in long arithmetic with overflow");
        TunnelFabric x = Fabrics.built("h3(d3 d3)h3(s3 n3 n3)");
        int[][] devices = {{0, 5}, {0, 5}, {1, 2}, {1, 2}, {1, 3}, {1, 3}, {2, 6}, {2, 6}, {2, 7}, {2, 7}};
        for (int t = 0; t < devices.length; t++) {
            check.due(t, x.open(devices[t][0], devices[t][1], 3), "open " + t);
        }
        for (int t = 0; t < devices.length; t++) {
            x.offer(t, 0, 50 + t);
        }
        x.offer(2, 1, 60);
        x.offer(9, 1, 99);
        x.tick(3);
        digestIsDue(x);
    }

    private static void digestOfEach() {
        check.part("promise 32: a path of four links, in both directions");
        TunnelFabric x = Fabrics.built("d3(d3(d3(d3)))");
        x.open(1, 4, 1);
        x.offer(0, 0, 30);
        x.offer(0, 1, 40);
        x.tick(3);
        digestIsDue(x);
        check.part("promise 32: asleep, waking and wide links");
        TunnelFabric y = Fabrics.built("h3(s3 n2)d3");
        y.widen(4, true);
        y.tick(4);
        y.open(0, 2, 12);
        y.tick(1);
        digestIsDue(y);
        check.part("promise 32: the digest changes nothing");
        check.due(y.digest(), y.digest(), "digest()");
        digestIsDue(y);
    }
}

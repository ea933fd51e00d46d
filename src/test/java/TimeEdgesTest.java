/** The boundary cases that the document names in promises 22 and 23, and in the rules by which a tick passes. */
public final class TimeEdgesTest {
    private static final Check check = new Check();

    public static void main(String[] args) {
        tickArguments();
        manyTicksAreSingleTicks();
        waking();
        wakingWithoutCells();
        whatATunnelCanSend();
        video();
        turnSizes();
        turnOrder();
        turnEnds();
        delivery();
        drowsy();
        patienceArguments();
        patienceEnds();
        check.end();
    }

    private static void run(String sentence, String script) {
        Script.run(check, sentence, script);
    }

    private static void tickArguments() {
        run("promise 22: the number of ticks, from 1", """
            tick(0) ! BAD; tick(-1) ! BAD; tick(MIN) ! BAD; count(2) = 0; tick(1) = 0; count(2) = 1
            """);
        run("promise 22: the number of ticks, to 50", """
            tick(51) ! BAD; tick(MAX) ! BAD; count(2) = 0; tick(50) = 0; count(2) = 50; tick(49) = 0; count(2) = 99
            """);
        run("promise 22: a refused tick moves no cell", """
            text 'd3'
            build() = 2; open(1,1,1) = 0; offer(0,0,9) = 9; tick(0) ! BAD; tick(51) ! BAD; cellCount(0,0,0) = 9
            count(3) = 0
            """);
        run("promise 22: returns how many cells were delivered in them, none to all", """
            text 'd3'
            build() = 2; open(1,1,1) = 0; tick(1) = 0; offer(0,0,99) = 99; offer(0,1,99) = 99; tick(16) = 192
            tick(1) = 6
            tick(50) = 0; count(3) = 198
            """);
    }

    private static void manyTicksAreSingleTicks() {
        check.part("promise 22: 50 ticks in one call are 50 calls of one tick");
        TunnelFabric once = Fabrics.built("h3(s2 d3(n1) n3) d1");
        TunnelFabric often = Fabrics.built("h3(s2 d3(n1) n3) d1");
        int[][] tunnels = {{0, 2, 2}, {1, 3, 1}, {2, 4, 1}, {2, 5, 1}, {1, 6, 1}};
        for (int t = 0; t < tunnels.length; t++) {
            for (TunnelFabric x : new TunnelFabric[] {once, often}) {
                x.open(tunnels[t][0], tunnels[t][1], tunnels[t][2]);
                x.offer(t, 0, 40 + t);
                x.offer(t, 1, 10 * t + 1);
            }
        }
        int sum = 0;
        for (int i = 0; i < 50; i++) {
            sum += often.tick(1);
        }
        check.due(sum, once.tick(50), "tick(50)");
        check.due(often.digest(), once.digest(), "digest()");
        check.dueTrue(sum > 100, "many cells are delivered");
    }

    private static void waking() {
        run("promise 22: a link that is asleep starts waking for a waiting cell, and needs 2 more ticks", """
            text 'd3'
            build() = 2; open(1,1,1) = 0; tick(4); offer(0,0,9) = 9; link(1,4) = 2; link(1,6) = 0
            tick(1) = 0; link(1,4) = 3; link(1,6) = 2; tick(1) = 0; link(1,4) = 3; link(1,6) = 1
            tick(1) = 6; link(1,4) = 0; link(1,6) = 0; cellCount(0,0,0) = 3
            """);
        run("promise 22: a link that is asleep stays so while no cell waits for it", """
            text 'd3'
            build() = 2; open(1,1,1) = 0; tick(4); link(1,4) = 2; tick(50) = 0; link(1,4) = 2; count(5) = 1
            """);
        run("promise 22: a cell waits for hop 0 in the queue, and for another one in the buffer of the hop before", """
            text 'd3(d3)'
            build() = 3; open(1,2,1) = 0; tick(4); offer(0,0,1) = 1
            tick(1) = 0; link(1,4) = 3; link(2,4) = 2; tick(2) = 0; link(1,4) = 0; hop(0,0,0,3) = 1; link(2,4) = 2
            tick(1) = 0; link(2,4) = 3; link(2,6) = 2; tick(1) = 0; link(2,6) = 1; tick(1) = 1; link(2,4) = 0
            """);
        run("promise 22: upward the queue is at the device", """
            text 'd3(d3)'
            build() = 3; open(1,2,1) = 0; tick(4); offer(0,1,1) = 1
            tick(1) = 0; link(2,4) = 3; link(1,4) = 2; tick(2) = 0; hop(0,1,0,3) = 1; link(1,4) = 2
            tick(1) = 0; link(1,4) = 3; tick(1) = 0; tick(1) = 1; cellCount(0,1,2) = 1
            """);
        run("promise 22: a waking link goes on waking when its cells are gone", """
            text 'd3'
            build() = 2; open(1,1,1) = 0; tick(4); offer(0,0,1) = 1; tick(1) = 0; close(0) = 1; link(1,6) = 2
            tick(1); link(1,6) = 1; tick(1); link(1,4) = 0; link(1,5) = 1
            """);
    }

    private static void wakingWithoutCells() {
        run("promise 22: a link that wakes and sends nothing is idle at once, and drowsy if the patience is 1", """
            text 'd3'
            build() = 2; setPatience(1) = 3; open(1,1,1) = 0; tick(2); link(1,4) = 2; offer(0,0,1) = 1; tick(1) = 0
            close(0) = 1; tick(1); link(1,4) = 3; tick(1); link(1,4) = 1; link(1,5) = 1; link(1,6) = 0
            tick(1); link(1,4) = 2
            """);
    }

    private static void whatATunnelCanSend() {
        run("promise 22: as many cells as wait for the hop", """
            text 'd3'
            build() = 2; open(1,1,1) = 0; offer(0,0,1) = 1; tick(1) = 1; tick(1) = 0; offer(0,0,3) = 3; tick(1) = 3
            """);
        run("promise 22: as fit into the buffer of the hop, its credits minus the cells in it", """
            text 'h3(n1)'
            build() = 3; open(2,2,1) = 0; offer(0,0,20) = 20; tick(1) = 0; hop(0,0,0,3) = 3; cellCount(0,0,0) = 17
            tick(1) = 2; hop(0,0,0,3) = 1; cellCount(0,0,0) = 17; tick(1) = 1; hop(0,0,0,3) = 2; cellCount(0,0,0) = 15
            """);
        run("promise 22: with one credit, one cell", """
            text 'd3(n3)'
            build() = 3; open(1,1,1) = 0; open(1,1,1) = 1; open(2,2,1) = 2; open(2,2,1) = 3; hop(3,0,0,2) = 1
            offer(3,0,5) = 5; tick(1) = 0; cellCount(3,0,0) = 4; tick(1) = 1; cellCount(3,0,0) = 4; tick(1) = 0
            cellCount(3,0,0) = 3
            """);
        run("promise 22: all decisions are made by the numbers at the beginning of the tick", """
            text 'd3(d3)'
            build() = 3; open(1,2,1) = 0; offer(0,0,12) = 12; tick(1) = 0; hop(0,0,0,3) = 6; tick(1) = 6
            cellCount(0,0,0) = 6; hop(0,0,0,3) = 0; tick(1) = 0; hop(0,0,0,3) = 6; tick(1) = 6; cellCount(0,0,0) = 0
            """);
        run("promise 22: as are left of the capacity", """
            text 'd1'
            build() = 2; open(1,1,1) = 0; offer(0,0,9) = 9; offer(0,1,9) = 9; tick(1) = 4; cellCount(0,0,0) = 7
            cellCount(0,1,0) = 7; load(1,0) = 0.125f; load(1,1) = 0.125f
            """);
        run("promise 22: a wide link carries up to 12 down and 4 up", """
            text 'h3(d3 d3)'
            build() = 4; widen(1,true) = 0; open(1,2,1) = 0; open(1,3,1) = 1; open(1,2,1) = 2
            offer(0,0,9) = 9; offer(1,0,9) = 9; offer(2,0,9) = 9; tick(1) = 0; load(1,0) = 0.125f
            cellCount(0,0,1) = 4; cellCount(1,0,1) = 4; cellCount(2,0,1) = 4
            offer(0,1,6) = 6; offer(1,1,6) = 6; tick(1); tick(1); cellCount(0,1,2) = 2; cellCount(1,1,2) = 2
            """);
    }

    private static void video() {
        run("promise 22: a video tunnel sends at most its granted bandwidth", """
            text 's3'
            build() = 2; open(0,1,1) = 0; offer(0,0,9) = 9; tick(1) = 1; claim(0,3) = 3; tick(1) = 3; tick(1) = 3
            tick(1) = 2
            """);
        run("promise 22: a video tunnel sends at most as many as it has credits", """
            text 's3'
            build() = 2; open(0,1,4) = 0; offer(0,0,99) = 99; tick(1) = 4; claim(0,5) = 5; tick(1) = 4
            claim(0,12) = 7
            tick(1) = 4
            """);
        run("promise 22: first each video tunnel, and the others have what is left of the capacity", """
            text 's1(d1)'
            build() = 3; open(1,2,1) = 0; open(0,1,1) = 1; offer(0,0,9) = 9; offer(1,0,9) = 9; tick(1) = 1
            cellCount(0,0,0) = 8; cellCount(1,0,0) = 8; load(1,0) = 0.125f
            """);
        run("promise 22: the reserve that video does not use goes to the others", """
            text 's1(d1)'
            build() = 3; open(1,2,1) = 0; open(0,1,1) = 1; offer(0,0,9) = 9; tick(1) = 0; cellCount(0,0,0) = 7
            """);
        run("promise 22: video takes no turn: the turns go on after it as before", """
            text 's2(n2)'
            build() = 3; open(2,2,1) = 0; open(0,1,2) = 1; open(2,2,1) = 2; open(2,2,1) = 3
            offer(0,0,9) = 9; offer(1,0,9) = 9; offer(2,0,9) = 9; offer(3,0,9) = 9
            tick(1) = 2; cellCount(0,0,0) = 8; cellCount(2,0,0) = 8; cellCount(3,0,0) = 9
            tick(1); cellCount(0,0,0) = 7; cellCount(2,0,0) = 8; cellCount(3,0,0) = 8
            """);
    }

    private static void turnSizes() {
        run("promise 22: in its turn a storage tunnel sends at most 2, and a packet tunnel at most 1", """
            text 'h3(d3 n3 n3)'
            build() = 5; open(1,2,1) = 0; open(2,3,1) = 1; open(2,4,1) = 2; offer(0,0,20) = 20; offer(1,0,20) = 20
            offer(2,0,20) = 20; tick(1) = 0; cellCount(0,0,0) = 16; cellCount(1,0,0) = 18; cellCount(2,0,0) = 18
            load(1,0) = 0.125f; tick(1) = 8; cellCount(0,0,0) = 14; cellCount(1,0,0) = 17; cellCount(2,0,0) = 17
            """);
        run("promise 22: a storage tunnel sends 1 if there is no more in the queue", """
            text 'd1'
            build() = 2; open(1,1,1) = 0; open(1,1,1) = 1; offer(0,0,1) = 1; offer(1,0,9) = 9; tick(1) = 2
            cellCount(0,0,2) = 1; cellCount(1,0,2) = 1
            """);
        run("promise 22: a storage tunnel sends 1 if there is no more left of the capacity", """
            text 'd1(n1)'
            build() = 3; open(2,2,1) = 0; open(1,1,1) = 1; offer(0,0,9) = 9; offer(1,0,9) = 9; tick(1) = 1
            cellCount(0,0,0) = 8; cellCount(1,0,0) = 8; tick(1) = 2; cellCount(0,0,0) = 7; cellCount(1,0,0) = 7
            """);
    }

    private static void turnOrder() {
        run("promise 22: at first the turns begin with the least number", """
            text 'n1'
            build() = 2; open(2,1,1) = 0; open(2,1,1) = 1; open(2,1,1) = 2; offer(0,0,9) = 9; offer(1,0,9) = 9
            offer(2,0,9) = 9
            tick(1) = 2; cellCount(0,0,2) = 1; cellCount(1,0,2) = 1; cellCount(2,0,2) = 0
            """);
        run("promise 22: then with the first number greater than the last one that sent, cyclically", """
            text 'n1'
            build() = 2; open(2,1,1) = 0; open(2,1,1) = 1; open(2,1,1) = 2; offer(0,0,9) = 9; offer(1,0,9) = 9
            offer(2,0,9) = 9
            tick(2) = 4; cellCount(0,0,2) = 2; cellCount(1,0,2) = 1; cellCount(2,0,2) = 1
            tick(1) = 2; cellCount(0,0,2) = 2; cellCount(1,0,2) = 2; cellCount(2,0,2) = 2
            """);
        run("promise 22: with the least one if there is no greater number", """
            text 'n1'
            build() = 2; open(2,1,1) = 0; open(2,1,1) = 1; open(2,1,1) = 2; offer(0,0,9) = 9; offer(1,0,9) = 9
            offer(2,0,9) = 9
            tick(3) = 6; tick(1) = 2; cellCount(0,0,2) = 3; cellCount(1,0,2) = 3; cellCount(2,0,2) = 2
            """);
        run("promise 22: a turn without a cell is no sending", """
            text 'n1'
            build() = 2; open(2,1,1) = 0; open(2,1,1) = 1; open(2,1,1) = 2; open(2,1,1) = 3; offer(1,0,9) = 9
            tick(1) = 2; offer(0,0,9) = 9; offer(2,0,9) = 9; offer(3,0,9) = 9
            tick(1) = 2; cellCount(2,0,2) = 1; cellCount(3,0,2) = 1; cellCount(0,0,2) = 0
            """);
        run("promise 22: the last one that sent may be closed since", """
            text 'n1'
            build() = 2; open(2,1,1) = 0; open(2,1,1) = 1; open(2,1,1) = 2; open(2,1,1) = 3
            offer(0,0,9) = 9; offer(1,0,9) = 9; offer(2,0,9) = 9; offer(3,0,9) = 9; tick(1) = 2; close(1) = 8
            tick(1) = 2; cellCount(0,0,2) = 1; cellCount(2,0,2) = 1; cellCount(3,0,2) = 1
            """);
        run("promise 22: the tunnels up to 9 take turns", Fabrics.TEN_TUNNELS + """
            offer(9,0,2) = 2; offer(8,0,2) = 2; tick(1) = 0; cellCount(9,0,1) = 2; cellCount(8,0,1) = 2; tick(1) = 4
            """);
        run("promise 22: after the tunnel 9 comes the least one", """
            text 'h3(d3 d3)h3(s3 n3 n1)'
            build() = 8; open(0,5,1) = 0; open(0,5,1) = 1; open(1,2,1) = 2; open(1,2,1) = 3; open(1,3,1) = 4
            open(1,3,1) = 5
            open(2,6,1) = 6; open(2,7,1) = 7; open(2,7,1) = 8; open(2,7,1) = 9
            offer(7,1,9) = 9; offer(8,1,9) = 9; offer(9,1,9) = 9
            tick(1) = 0; cellCount(7,1,0) = 8; cellCount(8,1,0) = 8; cellCount(9,1,0) = 9
            tick(1) = 2; cellCount(7,1,0) = 7; cellCount(8,1,0) = 8; cellCount(9,1,0) = 8
            tick(1) = 2; cellCount(7,1,0) = 7; cellCount(8,1,0) = 7; cellCount(9,1,0) = 7
            tick(1) = 2; cellCount(7,1,0) = 6; cellCount(8,1,0) = 6; cellCount(9,1,0) = 7
            """);
        run("promise 22: each direction has turns of its own", """
            text 'n1'
            build() = 2; open(2,1,1) = 0; open(2,1,1) = 1; open(2,1,1) = 2; offer(0,0,9) = 9; offer(1,0,9) = 9
            offer(2,0,9) = 9
            tick(1) = 2; offer(0,1,9) = 9; offer(1,1,9) = 9; offer(2,1,9) = 9; tick(1) = 4
            cellCount(0,1,2) = 1; cellCount(1,1,2) = 1; cellCount(2,1,2) = 0
            """);
        run("promise 22: tunnels that do not use the link take no turns there", """
            text 'n1 n1'
            build() = 3; open(2,1,1) = 0; open(2,2,1) = 1; open(2,1,1) = 2; open(2,1,1) = 3
            offer(0,0,9) = 9; offer(1,0,9) = 9; offer(2,0,9) = 9; offer(3,0,9) = 9
            tick(1) = 4; cellCount(0,0,2) = 1; cellCount(1,0,2) = 2; cellCount(2,0,2) = 1; cellCount(3,0,2) = 0
            tick(1) = 4; cellCount(0,0,2) = 2; cellCount(1,0,2) = 4; cellCount(2,0,2) = 1; cellCount(3,0,2) = 1
            """);
    }

    private static void turnEnds() {
        run("promise 22: the turns end when the capacity is used up, within a turn", """
            text 'h1(d3 n3)'
            build() = 4; open(2,3,1) = 0; open(1,2,1) = 1; offer(0,0,9) = 9; offer(1,0,9) = 9; tick(1) = 0
            cellCount(0,0,0) = 8; cellCount(1,0,0) = 8; load(1,0) = 0.125f
            """);
        run("promise 22: the turns end when all tunnels have had a turn in succession without sending", """
            text 'h3(d3 n3)'
            build() = 4; open(1,2,1) = 0; open(2,3,1) = 1; offer(0,0,5) = 5; offer(1,0,1) = 1; tick(1) = 0
            cellCount(0,0,0) = 0; cellCount(1,0,0) = 0; load(1,0) = 0.09375f; tick(1) = 6
            """);
        run("promise 22: the turns go on while one of many tunnels sends", """
            text 'n3'
            build() = 2; open(2,1,1) = 0; open(2,1,1) = 1; open(2,1,1) = 2; open(2,1,1) = 3; offer(3,0,9) = 9
            tick(1) = 3
            offer(0,0,9) = 9; tick(1) = 6; cellCount(0,0,2) = 3; cellCount(3,0,2) = 6
            """);
    }

    private static void delivery() {
        run("promise 22: a cell passes one hop in a tick, and is delivered from the last one", """
            text 'd3(d3(d3(d3)))'
            build() = 5; open(1,4,1) = 0; open(1,1,1) = 1; offer(0,0,1) = 1; offer(1,0,1) = 1; tick(1) = 1
            tick(1) = 0
            tick(1) = 0; hop(0,0,2,3) = 1; tick(1) = 1; cellCount(0,0,1) = 0; cellCount(0,0,2) = 1
            """);
        run("promise 22: upward it is delivered at the host", """
            text 'd3(d3(d3(d3)))'
            build() = 5; open(1,4,1) = 0; offer(0,1,1) = 1; tick(3) = 0; hop(0,1,2,3) = 1; tick(1) = 1
            cellCount(0,1,2) = 1
            """);
    }

    private static void drowsy() {
        run("promise 22: a drowsy link sends, and is awake then", """
            text 'd3'
            build() = 2; open(1,1,1) = 0; tick(3); link(1,4) = 1; offer(0,1,1) = 1; tick(1) = 1; link(1,4) = 0
            link(1,5) = 0
            """);
        run("promise 22: a drowsy link falls asleep if no cell was sent", """
            text 'd3'
            build() = 2; open(1,1,1) = 0; tick(3); link(1,4) = 1; tick(1); link(1,4) = 2; link(1,5) = 4; tick(1)
            link(1,5) = 0
            """);
        run("promise 22: a link over which tunnels sent before they were closed is idle in the next tick", """
            text 'd3'
            build() = 2; open(1,1,1) = 0; offer(0,0,99) = 99; tick(1) = 6; link(1,5) = 0; load(1,0) = 0.09375f
            close(0) = 93
            tick(1) = 0; link(1,5) = 1; load(1,0) = 0.08203125f; tick(2); link(1,4) = 1
            """);
        run("promise 22: a link that a video tunnel uses does not become drowsy", """
            text 'h3(s3 s3)'
            build() = 4; open(0,2,1) = 0; tick(50); link(1,4) = 0; link(2,4) = 0; link(3,4) = 2; link(1,5) = 50
            close(0) = 0; link(1,4) = 0; tick(1); link(1,4) = 1; link(1,5) = 51; tick(1); link(1,4) = 2
            link(1,5) = 52
            """);
        run("promise 22: storage and packets without cells let a link become drowsy", """
            text 'd3(n3)'
            build() = 3; open(1,1,1) = 0; open(2,2,1) = 1; tick(3); link(1,4) = 1; link(2,4) = 1
            """);
        run("promise 22: a cell that waits but cannot be sent leaves the link idle", """
            text 'h3(d3)'
            build() = 3; open(1,2,1) = 0; tick(4); count(5) = 2; offer(0,0,7) = 7; tick(3) = 0; hop(0,0,0,3) = 6
            link(1,5) = 0
            tick(1) = 0; link(1,5) = 1; cellCount(0,0,0) = 1
            """);
    }

    private static void patienceArguments() {
        run("promise 23: the patience, from 1", """
            setPatience(0) ! BAD; setPatience(-1) ! BAD; setPatience(MIN) ! BAD; count(6) = 3; setPatience(1) = 3
            count(6) = 1
            """);
        run("promise 23: the patience, to 9", """
            setPatience(10) ! BAD; setPatience(MAX) ! BAD; count(6) = 3; setPatience(9) = 3; count(6) = 9
            """);
        run("promise 23: returns the previous patience", """
            setPatience(9) = 3; setPatience(9) = 9; setPatience(1) = 9; setPatience(10) ! BAD; setPatience(5) = 1
            """);
    }

    private static void patienceEnds() {
        run("promise 23: the patience 1", """
            text 'd3'
            build() = 2; setPatience(1) = 3; link(1,4) = 0; tick(1); link(1,4) = 1; link(1,5) = 1; tick(1)
            link(1,4) = 2
            """);
        run("promise 23: the patience 9", """
            text 'd3'
            build() = 2; setPatience(9) = 3; tick(8); link(1,4) = 0; link(1,5) = 8; tick(1); link(1,4) = 1; tick(1)
            link(1,4) = 2
            """);
        run("promise 23: at first 3", """
            text 'd3'
            build() = 2; tick(2); link(1,4) = 0; tick(1); link(1,4) = 1
            """);
        run("promise 23: an idle time above the new patience counts at the next tick", """
            text 'd3'
            build() = 2; setPatience(9) = 3; tick(5); setPatience(2) = 9; link(1,4) = 0; tick(1); link(1,4) = 1
            link(1,5) = 6
            """);
        run("promise 23: a link that is drowsy already does not become awake by more patience", """
            text 'd3'
            build() = 2; tick(3); link(1,4) = 1; setPatience(9) = 3; link(1,4) = 1; tick(1); link(1,4) = 2
            """);
    }
}

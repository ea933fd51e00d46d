/** The boundary cases that the document names in promises 24 to 28, sentence by sentence. */
public final class AnalysisEdgesTest {
    private static final Check check = new Check();

    public static void main(String[] args) {
        noSuchTunnel("promise 24", "fairShare", ",0");
        fairShareDirections();
        fairShareOfVideo();
        fairShareAlone();
        fairShareOfMany();
        fairShareLeft();
        fairShareOfEqualLevels();
        roomArguments();
        roomEnds();
        bestPortArguments();
        bestPortNone();
        bestPortOrder();
        noSuchTunnel("promise 27", "gain", "");
        gain();
        noSuchTunnel("promise 28", "bottleneck", "");
        bottleneck();
        check.end();
    }

    private static void run(String sentence, String script) {
        Script.run(check, sentence, script);
    }

    /** What three of the calls have in common: their first argument. */
    private static void noSuchTunnel(String promise, String call, String more) {
        run(promise + ": the tunnel, from 0 to 9", (Fabrics.TEN_TUNNELS + """
            CALL(-1) ! BAD; CALL(10) ! BAD; CALL(MIN) ! BAD; CALL(MAX) ! BAD; close(9) = 0; CALL(9) ! BAD
            """).replaceAll("CALL\\(([^)]*)\\)", call + "($1" + more + ")"));
        run(promise + ": BAD if there is no such open tunnel", """
            CALL(0) ! BAD; plug(0,0,SCREEN,3) = 1; CALL(0) ! BAD; open(0,1,1) = 0; CALL(1) ! BAD; close(0) = 0
            CALL(0) ! BAD
            """.replaceAll("CALL\\(([^)]*)\\)", call + "($1" + more + ")"));
    }

    private static void fairShareDirections() {
        run("promise 24: the direction, 0 or 1", """
            text 's3 d3'
            build() = 3; open(0,1,2) = 0; open(1,2,1) = 1
            fairShare(0,-1) ! BAD; fairShare(0,2) ! BAD; fairShare(1,-1) ! BAD; fairShare(1,2) ! BAD
            fairShare(1,MIN) ! BAD
            fairShare(1,MAX) ! BAD; fairShare(2,0) ! BAD; fairShare(1,0) ! 8f; fairShare(1,1) ! 8f
            """);
    }

    private static void fairShareOfVideo() {
        run("promise 24: for a video tunnel and direction 0 its granted bandwidth as a float", """
            text 's3'
            build() = 2; open(0,1,1) = 0; fairShare(0,0) ! 1f; claim(0,12) = 7; fairShare(0,0) = 7f; widen(1,true) = 0
            fairShare(0,0) = 11f
            """);
        run("promise 24: for a video tunnel and direction 1 the float 0", """
            text 's3'
            build() = 2; open(0,1,12) = 0; fairShare(0,1) ! 0f; fairShare(0,1) = 0
            """);
    }

    private static void fairShareAlone() {
        run("promise 24: a tunnel alone has all of the least link of its path", """
            text 'h3(h2(d3 n1))'
            build() = 5; open(1,3,1) = 0; fairShare(0,0) = 4f; fairShare(0,1) = 4f; close(0) = 0; open(2,4,1) = 0
            fairShare(0,0) = 2f; fairShare(0,1) = 2f
            """);
        run("promise 24: a wide link has more downward than upward", """
            text 'd3'
            build() = 2; widen(1,true) = 0; open(1,1,1) = 0; fairShare(0,0) = 12f; fairShare(0,1) = 4f
            """);
        run("promise 24: credits and cells do not matter", """
            text 'd3(n3)'
            build() = 3; open(1,1,1) = 0; open(1,1,1) = 1; open(2,2,1) = 2; open(1,1,1) = 3; hop(3,0,0,2) = 1
            fairShare(3,0) = 2.2857144f; fairShare(2,0) = 1.1428572f; offer(0,0,99) = 99; tick(1)
            fairShare(3,0) = 2.2857144f
            tick(50); link(1,4) = 2; fairShare(3,0) = 2.2857144f
            """);
    }

    private static void fairShareOfMany() {
        run("promise 24: with all ten tunnels", Fabrics.TEN_TUNNELS + """
            fairShare(2,0) = 2f; fairShare(5,0) = 2f; fairShare(6,0) = 1.5f; fairShare(9,0) = 1.5f
            fairShare(9,1) = 2f
            fairShare(2,1) = 2f; fairShare(0,0) = 1f; fairShare(1,1) = 0f
            """);
        run("promise 24: tunnels on other links have no part in it", """
            text 'd3 n3'
            build() = 3; open(1,1,1) = 0; open(2,2,1) = 1; fairShare(0,0) = 8f; fairShare(1,0) = 8f
            """);
    }

    private static void fairShareLeft() {
        run("promise 24: what is left is the capacity minus the reserve if the direction is 0", """
            text 's3(d3)'
            build() = 3; open(1,2,1) = 0; open(0,1,12) = 1; link(1,2) = 7; fairShare(0,0) = 1f; fairShare(0,1) = 8f
            close(1) = 0; fairShare(0,0) = 8f
            """);
        run("promise 24: what is left decreases tunnel by tunnel, in floats, here to less than 1", """
            text 'h2(n1 n1 s1)'
            build() = 5; open(0,4,1) = 0; open(2,3,1) = 1; open(2,3,1) = 2; open(2,3,1) = 3; open(2,2,1) = 4
            fairShare(1,0) = 0.6666667f; fairShare(2,0) = 0.6666667f; fairShare(3,0) = 0.6666667f
            fairShare(4,0) = 0.9999998f; fairShare(4,1) = 1.9999998f
            """);
        run("promise 24: what one tunnel cannot use is left for others", """
            text 'h3(d1 n3)'
            build() = 4; open(1,2,1) = 0; open(2,3,1) = 1; fairShare(0,0) = 2f; fairShare(1,0) = 6f
            fairShare(1,1) = 6f
            """);
    }

    /** The links of two hubs have the level 2/3 at first: which of them is chosen first shows in the last bits. */
    private static void fairShareOfEqualLevels() {
        run("promise 24: of several links with the least level the one of the least router: the upper one", """
            text 'h2(h1(d3 n3)d3 n3)'
            build() = 7; open(1,3,1) = 0; open(2,4,1) = 1; open(1,5,1) = 2; open(2,6,1) = 3
            fairShare(0,0) = 1.3333334f; fairShare(1,0) = 0.6666667f; fairShare(2,0) = 1.3333334f
            fairShare(3,0) = 0.6666667f
            """);
        run("promise 24: of several links with the least level the one of the least router: the lower one", """
            text 'n3 h2'
            build() = 3; unplug(1) = 1; plug(2,0,HUB,1) = 1; plug(1,0,DISK,3) = 3; plug(1,1,NETWORK,3) = 4
            plug(2,1,DISK,3) = 5; plug(2,2,NETWORK,3) = 6; open(1,3,1) = 0; open(2,4,1) = 1; open(1,5,1) = 2
            open(2,6,1) = 3
            fairShare(0,0) = 1.3333334f; fairShare(1,0) = 0.6666667f; fairShare(2,0) = 1.3333331f
            fairShare(3,0) = 0.66666657f
            fairShare(2,1) = 1.3333331f
            """);
    }

    private static void roomArguments() {
        run("promise 25: the router, from 0 to 7", """
            text 'h3(h3(n3 n3 n3)h3(n2))'
            build() = 8; room(-1) ! BAD; room(8) ! BAD; room(MIN) ! BAD; room(MAX) ! BAD; room(0) ! 12; room(7) ! 3
            room(1) ! 7
            """);
        run("promise 25: BAD if there is no such router", """
            room(1) ! BAD; room(7) ! BAD; plug(0,0,0,3) = 1; room(1) = 7; room(2) ! BAD; unplug(1) = 1; room(1) ! BAD
            """);
    }

    private static void roomEnds() {
        run("promise 25: 12 for the host", """
            room(0) = 12; plug(0,0,SCREEN,1) = 1; open(0,1,1) = 0; room(0) = 12
            """);
        run("promise 25: the room of the path, from 0 to 11", """
            text 's3'
            build() = 2; room(1) = 7; widen(1,true) = 0; room(1) = 11; open(0,1,10) = 0; room(1) = 1; claim(0,12) = 11
            room(1) = 0
            """);
        run("promise 25: without regard to bays, hop numbers and credits", """
            text 's3(n3)'
            build() = 3; open(0,1,1) = 0; open(0,1,1) = 1; open(0,1,1) ! FULL; room(1) = 5; open(2,2,1) = 2
            open(2,2,1) = 3; freeCredits(1,0) = 0; room(1) = 5; room(2) = 5
            """);
        run("promise 25: a router of any kind, and the least link of its path", """
            text 'h3(d2(n3) s1 h3)'
            build() = 6; room(1) = 7; room(2) = 3; room(3) = 3; room(4) = 1; room(5) = 7
            """);
        run("promise 25: the first link of four counts, and the last one", """
            text 'h3(h3(h3(s3)))s3'
            build() = 6; room(4) = 7; open(0,4,2) = 0; room(4) = 5; widen(2,true) = 0; widen(3,true) = 0
            widen(4,true) = 0; room(4) = 5; room(1) = 5; widen(1,true) = 0; widen(4,false) = 1; room(4) = 5
            room(3) = 9
            """);
    }

    private static void bestPortArguments() {
        run("promise 26: the generation of the screen, 1 to 3", """
            bestPort(0) ! BAD; bestPort(4) ! BAD; bestPort(-1) ! BAD; bestPort(MIN) ! BAD; bestPort(MAX) ! BAD
            bestPort(1) ! 0; bestPort(2) ! 0; bestPort(3) ! 0
            """);
        run("promise 26: BAD comes before NONE", """
            text 'n3 n3'
            build() = 3; bestPort(0) ! BAD; bestPort(4) ! BAD; bestPort(3) ! NONE
            """);
    }

    private static void bestPortNone() {
        run("promise 26: NONE if there is no free port", """
            text 'n3 s3(n3)'
            build() = 4; bestPort(1) ! NONE; bestPort(3) ! NONE; unplug(3) = 1; bestPort(3) = 16
            """);
        run("promise 26: ports of routers with the depth 4 are left out, and those with the depth 3 are not", """
            text 'd3(d3(d3))n3'
            build() = 5; bestPort(3) = 24; plug(3,0,HUB,3) = 5; router(5,4) = 4; bestPort(3) ! NONE
            bestPort(1) ! NONE
            """);
        run("promise 26: even if all 8 routers are present", """
            text 'h3(h3(n3 n3)n3 n3)h3'
            build() = 8; plug(7,0,SCREEN,3) ! FULL; bestPort(3) ! 56
            """);
        run("promise 26: a port is found even if its room is 0", """
            text 's1 n3'
            build() = 3; open(0,1,1) = 0; room(1) = 0; bestPort(3) = 8; bestPort(1) = 8
            """);
    }

    private static void bestPortOrder() {
        run("promise 26: the greatest room comes before the least depth", """
            text 's1 h3(n3 n3 h3)'
            build() = 6; bestPort(3) = 40; bestPort(2) = 40; bestPort(1) = 8
            """);
        run("promise 26: the room is also that of the links above", """
            text 'h2(h3)h3(h3)'
            build() = 5; bestPort(3) = 25; bestPort(2) = 9; bestPort(1) = 9; plug(3,1,NETWORK,3) = 5
            plug(3,2,NETWORK,3) = 6
            bestPort(3) = 32
            """);
        run("promise 26: of several the one with the least depth of its router", """
            text 'h3(h3 n3 n3)h3'
            build() = 6; bestPort(3) = 40; bestPort(1) = 40; unplug(5) = 1; bestPort(3) = 1
            """);
        run("promise 26: of several the one of the least router", """
            text 'h3 h3'
            build() = 3; bestPort(3) = 8; plug(1,0,NETWORK,3) = 3; plug(1,1,NETWORK,3) = 4; plug(1,2,NETWORK,3) = 5
            bestPort(3) = 16
            """);
        run("promise 26: of several the least port", """
            bestPort(3) = 0; plug(0,0,HUB,3) = 1; bestPort(3) = 1; plug(0,1,NETWORK,3) = 2; bestPort(3) = 8
            plug(1,0,NETWORK,3) = 3; bestPort(3) = 9; plug(1,1,NETWORK,3) = 4; bestPort(3) = 10; unplug(3) = 1
            bestPort(3) = 8
            """);
        run("promise 26: reserves count", """
            text 's3 h3(s3)'
            build() = 4; bestPort(3) = 8; open(0,1,1) = 0; bestPort(3) = 17; open(0,3,2) = 1; bestPort(3) = 8
            widen(2,true) = 0; bestPort(3) = 17
            """);
    }

    private static void gain() {
        run("promise 27: 0 if no other tunnel wants more", """
            text 'h3(s3 s3)'
            build() = 4; open(0,2,4) = 0; gain(0) ! 0; open(0,3,3) = 1; gain(0) ! 0; gain(1) ! 0
            """);
        run("promise 27: what the other one wants, but at most the room that there would be", """
            text 'h3(s3 s3)'
            build() = 4; open(0,2,6) = 0; open(0,3,3) = 1; tunnel(1,3) = 1; gain(0) ! 2; claim(1,12) = 1; gain(0) ! 6
            close(0) = 0; tunnel(1,3) = 7
            """);
        run("promise 27: 0 for storage and packets, which have no bandwidth", """
            text 'h3(s3 s3(n3) d3)'
            build() = 6; open(0,2,6) = 0; open(0,3,6) = 1; open(1,5,1) = 2; open(2,4,1) = 3; gain(2) ! 0; gain(3) ! 0
            gain(0) ! 5
            """);
        run("promise 27: nothing changes", """
            text 'h3(s3 s3)'
            build() = 4; open(0,2,6) = 0; open(0,3,6) = 1; offer(0,0,9) = 9; tick(1); gain(0) ! 5; tunnel(0,3) = 6
            tunnel(1,3) = 1; count(4) = 0; cellCount(0,0,0) = 5; count(1) = 2; link(1,2) = 7; hop(0,0,0,2) = 4
            """);
        run("promise 27: nothing changes, also if the first tunnel is the one that would gain", """
            text 'h3(s3 s3)'
            build() = 4; open(0,2,1) = 0; open(0,3,6) = 1; claim(0,12) = 1; gain(1) ! 6; tunnel(0,3) = 1; gain(0) ! 0
            close(1) = 0; tunnel(0,3) = 7
            """);
        run("promise 27: its own bandwidth is no part of the sum", """
            text 's3'
            build() = 2; open(0,1,12) = 0; gain(0) ! 0
            """);
    }

    private static void bottleneck() {
        run("promise 28: the router whose link it is, from 1 to 7", """
            text 'h3(h3(s3 n3 n3)h3(n3))'
            build() = 8; open(2,7,1) = 0; bottleneck(0) ! 1; open(0,3,3) = 1; bottleneck(0) ! 1; widen(1,true) = 0
            bottleneck(0) ! 6; bottleneck(1) ! 2; widen(6,true) = 0; widen(2,true) = 0; bottleneck(0) ! 7
            bottleneck(1) ! 3
            """);
        run("promise 28: the last link of four", """
            text 'h3(h3(h3(n2)))'
            build() = 5; open(2,4,1) = 0; bottleneck(0) ! 4; unplug(4) = 1; plug(3,0,NETWORK,3) = 4; open(2,4,1) = 0
            bottleneck(0) ! 1
            """);
        run("promise 28: of several the one with the least depth, not of the least router", """
            text 'n3 h2'
            build() = 3; unplug(1) = 1; plug(2,0,DISK,2) = 1; open(1,1,1) = 0; bottleneck(0) ! 2
            """);
        run("promise 28: a path of one link", """
            text 's3 d1'
            build() = 3; open(0,1,12) = 0; open(1,2,1) = 1; bottleneck(0) ! 1; bottleneck(1) ! 2
            """);
        run("promise 28: the reserve counts, also for storage", """
            text 'h3(s3 d2)'
            build() = 4; open(1,3,1) = 0; bottleneck(0) ! 3; open(0,2,4) = 1; bottleneck(0) ! 1; claim(1,3) = 3
            bottleneck(0) ! 3
            """);
    }
}

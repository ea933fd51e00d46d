/** The boundary cases that the document names in promises 11 to 14, sentence by sentence. */
public final class LinksEdgesTest {
    private static final Check check = new Check();

    public static void main(String[] args) {
        noSuchLink("promise 11", "link");
        linkWhat();
        linkLimits();
        linkStates();
        linkIdle();
        noSuchLink("promise 12", "capacity");
        directions("promise 12", "capacity");
        capacity();
        noSuchLink("promise 13", "freeCredits");
        directions("promise 13", "freeCredits");
        freeCredits();
        noSuchLink("promise 14", "load");
        directions("promise 14", "load");
        load();
        loadFadesAway();
        check.end();
    }

    private static void run(String sentence, String script) {
        Script.run(check, sentence, script);
    }

    /** What the four calls of this part have in common: their first argument. */
    private static void noSuchLink(String promise, String call) {
        run(promise + ": the router whose link it is, not the host", """
            CALL(0,0) ! BAD; CALL(0,1) ! BAD; plug(0,0,0,3) = 1; CALL(0,0) ! BAD; CALL(-1,0) ! BAD; CALL(MIN,0) ! BAD
            """.replace("CALL", call));
        run(promise + ": the router whose link it is, to 7", """
            text 'h3(h3(n3 n3 n3)h3(n3))'
            build() = 8; CALL(8,0) ! BAD; CALL(MAX,1) ! BAD
            """.replace("CALL", call));
        run(promise + ": BAD if there is no such router", """
            CALL(1,0) ! BAD; CALL(7,1) ! BAD; plug(0,0,0,3) = 1; CALL(2,0) ! BAD; unplug(1) = 1; CALL(1,0) ! BAD
            """.replace("CALL", call));
    }

    private static void directions(String promise, String call) {
        run(promise + ": the direction, 0 or 1", """
            plug(0,0,0,3) = 1; CALL(1,-1) ! BAD; CALL(1,2) ! BAD; CALL(1,MIN) ! BAD; CALL(1,MAX) ! BAD
            CALL(0,2) ! BAD
            """.replace("CALL", call));
    }

    private static void linkWhat() {
        run("promise 11: what, from 0 to 6", """
            plug(0,0,0,2) = 1; link(1,-1) ! BAD; link(1,0) = 2; link(1,1) = 0; link(1,2) = 0; link(1,3) = 3
            link(1,4) = 0
            link(1,5) = 0; link(1,6) = 0; link(1,7) ! BAD; link(1,MIN) ! BAD; link(1,MAX) ! BAD; link(0,7) ! BAD
            """);
        run("promise 11: the links of the routers 1 and 7", """
            text 'h1(h3(n3 n3 n3)h3(n2))'
            build() = 8; link(1,0) = 1; link(7,0) = 2
            """);
    }

    private static void linkLimits() {
        run("promise 11: its generation is the smaller one of the generations of both routers", """
            text 'h1(h3(h2(h3)))h2'
            build() = 6; link(1,0) = 1; link(2,0) = 1; link(3,0) = 2; link(4,0) = 2; link(5,0) = 2
            """);
        run("promise 11: its limit is its capacity downward minus 1", """
            text 'h3(s1 s2 s3)'
            build() = 5; link(2,3) = 1; link(3,3) = 3; link(4,3) = 7; widen(4,true) = 0; link(4,1) = 1; link(4,3) = 11
            widen(4,false) = 1; link(4,1) = 0; link(4,3) = 7
            """);
        run("promise 11: the reserve is never greater than the limit", """
            text 'h3(s1 s2)s3'
            build() = 5; open(0,2,12) = 0; link(2,2) = 1; link(1,2) = 1; open(0,3,12) = 1; link(3,2) = 3
            link(1,2) = 4
            close(0) = 0; link(2,2) = 0; link(1,2) = 3; open(0,4,12) = 0; link(4,2) = 7; widen(4,true) = 0
            link(4,2) = 11
            """);
        run("promise 11: the reserve is of video tunnels alone", """
            text 'd3(n3)'
            build() = 3; open(1,1,12) = 0; open(2,2,12) = 1; link(1,2) = 0; link(2,2) = 0
            """);
    }

    private static void linkStates() {
        run("promise 11: the states 0 awake, 1 drowsy, 2 asleep, 3 waking", """
            text 'd3'
            build() = 2; open(1,1,1) = 0; link(1,4) = 0; tick(2); link(1,4) = 0; tick(1); link(1,4) = 1
            tick(1); link(1,4) = 2; tick(50); link(1,4) = 2
            offer(0,1,1) = 1; link(1,4) = 2; tick(1) = 0; link(1,4) = 3; tick(1) = 0; link(1,4) = 3
            tick(1) = 1; link(1,4) = 0
            """);
        run("promise 11: the number of ticks that it still needs to wake is 0 unless it is waking", """
            text 'd3'
            build() = 2; open(1,1,1) = 0; link(1,6) = 0; tick(3); link(1,6) = 0; tick(1); link(1,6) = 0
            offer(0,0,1) = 1; link(1,6) = 0; tick(1) = 0; link(1,6) = 2; tick(1) = 0; link(1,6) = 1
            tick(1) = 1; link(1,6) = 0; link(1,4) = 0
            """);
    }

    private static void linkIdle() {
        run("promise 11: the idle time grows while it is awake or drowsy, and is 0 when it sleeps and wakes", """
            text 'd3'
            build() = 2; open(1,1,1) = 0; link(1,5) = 0; tick(1); link(1,5) = 1; tick(2); link(1,5) = 3
            tick(1); link(1,5) = 4; link(1,4) = 2; tick(1); link(1,5) = 0; tick(1); link(1,5) = 0
            offer(0,0,1) = 1; tick(2) = 0; link(1,5) = 0; tick(1) = 1; link(1,5) = 0; tick(1); link(1,5) = 1
            """);
        run("promise 11: a cell in either direction makes the idle time 0", """
            text 'd3'
            build() = 2; open(1,1,1) = 0; tick(2); link(1,5) = 2; offer(0,0,1) = 1; tick(1) = 1; link(1,5) = 0
            tick(2); link(1,5) = 2; offer(0,1,1) = 1; tick(1) = 1; link(1,5) = 0
            """);
        run("promise 11: with video the idle time goes on without an end", """
            text 's3'
            build() = 2; open(0,1,1) = 0; tick(50); link(1,5) = 50; tick(50); link(1,5) = 100; link(1,4) = 0
            """);
    }

    private static void capacity() {
        run("promise 12: the rate is 1, 2 or 4 for the generations 1, 2 and 3, times 2 lanes", """
            text 'h3(s1 s2 s3)'
            build() = 5; capacity(2,0) = 2; capacity(2,1) = 2; capacity(3,0) = 4; capacity(3,1) = 4
            capacity(4,0) = 8; capacity(4,1) = 8
            """);
        run("promise 12: if it is wide, 3 lanes down and 1 lane up", """
            text 's3'
            build() = 2; widen(1,true) = 0; capacity(1,0) = 12; capacity(1,1) = 4; widen(1,false) = 1
            capacity(1,0) = 8
            capacity(1,1) = 8
            """);
        run("promise 12: the links of the routers 1 and 7", """
            text 'h1(h3(n3 n3 n3)h3(n2))'
            build() = 8; capacity(1,0) = 2; capacity(7,1) = 4
            """);
    }

    private static void freeCredits() {
        run("promise 13: downward the pool has the buffers of the router", """
            text 'h3(s3 d3 n3)'
            build() = 5; freeCredits(1,0) = 24; freeCredits(2,0) = 12; freeCredits(3,0) = 16; freeCredits(4,0) = 16
            """);
        run("promise 13: upward those of the parent divided by its ports", """
            text 'h3(s3(n3) d3(n3))n3'
            build() = 7; freeCredits(1,1) = 20; freeCredits(6,1) = 20; freeCredits(2,1) = 8; freeCredits(4,1) = 8
            freeCredits(3,1) = 12; freeCredits(5,1) = 16
            """);
        run("promise 13: down to 0, when tunnels have all the credits", """
            text 'd3'
            build() = 2; open(1,1,1) = 0; freeCredits(1,0) = 10; freeCredits(1,1) = 14; open(1,1,1) = 1
            freeCredits(1,0) = 4; freeCredits(1,1) = 8; open(1,1,1) = 2; freeCredits(1,0) = 0; freeCredits(1,1) = 2
            close(1) = 0; freeCredits(1,0) = 6; freeCredits(1,1) = 8
            """);
        run("promise 13: a video tunnel takes none upward", """
            text 's3'
            build() = 2; open(0,1,1) = 0; freeCredits(1,0) = 8; freeCredits(1,1) = 20
            """);
        run("promise 13: the links of the routers 1 and 7", """
            text 'h1(h3(n3 n3 n3)h3(n2))'
            build() = 8; freeCredits(1,0) = 24; freeCredits(7,1) = 8
            """);
    }

    private static void load() {
        run("promise 14: the load is 0 at first", """
            text 'h3(h3(n3 n3 n3)h3(n3))'
            build() = 8; load(1,0) = 0; load(1,1) = 0; load(7,0) = 0; load(7,1) = 0
            """);
        run("promise 14: it stays 0 while no cell is sent", """
            text 'd3'
            build() = 2; open(1,1,1) = 0; tick(50); load(1,0) = 0; load(1,1) = 0
            """);
        run("promise 14: with the capacity used up", """
            text 'd1'
            build() = 2; open(1,1,1) = 0; offer(0,0,9) = 9; tick(1) = 2; load(1,0) = 0.125f; load(1,1) = 0
            tick(1) = 2; load(1,0) = 0.234375f; tick(1) = 2; load(1,0) = 0.330078125f
            """);
        run("promise 14: with one cell of twelve", """
            text 'd3'
            build() = 2; widen(1,true) = 0; open(1,1,1) = 0; offer(0,0,1) = 1; offer(0,1,1) = 1; tick(1) = 2
            load(1,0) = 0.010416667f; load(1,1) = 0.03125f
            """);
        run("promise 14: it fades also while the link sleeps", """
            text 'd3'
            build() = 2; open(1,1,1) = 0; offer(0,0,4) = 4; tick(1) = 4; load(1,0) = 0.0625f; tick(1)
            load(1,0) = 0.0546875f
            tick(3); link(1,4) = 2; load(1,0) = 0.036636353f; tick(1); load(1,0) = 0.032056808f
            """);
    }

    /** A load becomes so small that its float has no leading 1 any more, and then stays, as it is rounded. */
    private static void loadFadesAway() {
        check.part("promise 14: as Float.floatToIntBits returns it, down to the least floats");
        TunnelFabric x = Fabrics.built("d3");
        x.open(1, 1, 1);
        x.offer(0, 0, 6);
        x.tick(1);
        float load = 6 / 8f * 0.125f;
        for (int i = 0; i < 180; i++) {
            check.due(Float.floatToIntBits(load), x.load(1, 0), "load(1, 0), after " + i + " times 5 ticks");
            x.tick(5);
            load = load * 0.875f * 0.875f * 0.875f * 0.875f * 0.875f;
        }
        check.due(4, x.load(1, 0), "load(1, 0) in the end");
    }
}

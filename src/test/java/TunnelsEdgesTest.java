/** The boundary cases that the document names in promises 15 to 21, sentence by sentence. */
public final class TunnelsEdgesTest {
    private static final Check check = new Check();

    /** Eight tunnels downward over link 1, so that it has no hop number left, but 3 credits in each direction. */
    private static final String EIGHT_HOP_NUMBERS = """
        text 'h3(d3(n3) d3(s3) n3)'
        build() = 7
        open(0,5,1) = 0; open(0,5,1) = 1; open(1,2,1) = 2; open(1,4,1) = 3; open(1,2,1) = 4; close(0)
        open(1,4,1) = 0; close(4); open(2,6,1) = 4; open(1,2,1) = 5; close(3); open(0,5,1) = 3; open(2,6,1) = 6
        close(0); open(2,6,1) = 0; open(1,4,1) = 7; close(2); open(2,3,1) = 2; count(1) = 8
        freeCredits(1,0) = 3; freeCredits(1,1) = 3
        """;

    public static void main(String[] args) {
        openArguments();
        openWrongKind();
        openBays();
        openHopNumbers();
        openVideoCredits();
        openStorageCredits();
        openPacketsCredits();
        openUpwardCredits();
        openBandwidth();
        openErrorsInOrder();
        openNumber();
        openSleep();
        close();
        closeDistributes();
        claimArguments();
        claimBandwidth();
        offerArguments();
        offerFull();
        tunnel();
        hopArguments();
        hopValues();
        cellCountArguments();
        cellCountValues();
        check.end();
    }

    private static void run(String sentence, String script) {
        Script.run(check, sentence, script);
    }

    private static void openArguments() {
        run("promise 15: its kind, 0 to 2", """
            text 'h3(s3 d3 n3)'
            build() = 5; open(-1,2,1) ! BAD; open(3,4,1) ! BAD; open(MIN,2,1) ! BAD; open(MAX,4,1) ! BAD
            open(0,2,1) = 0; open(2,4,1) = 1
            """);
        run("promise 15: its device, a router from 0 to 7", """
            text 'h3(h3(s3 n3 n3)h3(n3))'
            build() = 8; open(2,-1,1) ! BAD; open(2,8,1) ! BAD; open(2,MIN,1) ! BAD; open(2,MAX,1) ! BAD
            open(2,0,1) ! WRONG_KIND; open(2,7,1) = 0
            """);
        run("promise 15: BAD if there is no such router", """
            open(0,1,1) ! BAD; plug(0,0,SCREEN,3) = 1; open(0,2,1) ! BAD; open(0,7,1) ! BAD; open(0,1,1) = 0
            """);
        run("promise 15: the wanted bandwidth, 1 to 12", """
            text 's3'
            build() = 2; widen(1,true) = 0; open(0,1,0) ! BAD; open(0,1,13) ! BAD; open(0,1,-1) ! BAD
            open(0,1,MIN) ! BAD
            open(0,1,MAX) ! BAD; open(0,1,1) = 0; tunnel(0,2) = 1; tunnel(0,3) = 1; close(0) = 0
            open(0,1,12) = 0; tunnel(0,2) = 12; tunnel(0,3) = 11
            """);
        run("promise 15: it must be in this range for storage too", """
            text 'd3'
            build() = 2; open(1,1,0) ! BAD; open(1,1,13) ! BAD; open(1,1,1) = 0; open(1,1,12) = 1; tunnel(1,2) = NONE
            """);
        run("promise 15: it must be in this range for packets too", """
            text 'n3'
            build() = 2; open(2,1,0) ! BAD; open(2,1,13) ! BAD; open(2,1,1) = 0; open(2,1,12) = 1; tunnel(1,2) = NONE
            """);
    }

    private static void openWrongKind() {
        run("promise 15: WRONG_KIND unless a video tunnel leads to a screen", """
            text 'h3(s3 d3 n3)'
            build() = 5; open(0,0,1) ! WRONG_KIND; open(0,1,1) ! WRONG_KIND; open(0,3,1) ! WRONG_KIND
            open(0,4,1) ! WRONG_KIND; open(0,2,1) = 0
            """);
        run("promise 15: WRONG_KIND unless a storage tunnel leads to a disk", """
            text 'h3(s3 d3 n3)'
            build() = 5; open(1,0,1) ! WRONG_KIND; open(1,1,1) ! WRONG_KIND; open(1,2,1) ! WRONG_KIND
            open(1,4,1) ! WRONG_KIND; open(1,3,1) = 0
            """);
        run("promise 15: WRONG_KIND unless a packet tunnel leads to a network", """
            text 'h3(s3 d3 n3)'
            build() = 5; open(2,0,1) ! WRONG_KIND; open(2,1,1) ! WRONG_KIND; open(2,2,1) ! WRONG_KIND
            open(2,3,1) ! WRONG_KIND; open(2,4,1) = 0
            """);
    }

    private static void openBays() {
        run("promise 15: FULL if all bays of the row are in use: 2 video bays", """
            text 's3 s3'
            build() = 3; open(0,1,1) = 0; open(0,2,1) = 1; open(0,1,1) ! FULL; open(0,2,12) ! FULL; close(0) = 0
            open(0,2,1) = 0; open(0,1,1) ! FULL
            """);
        run("promise 15: FULL if all bays of the row are in use: 4 storage bays", """
            text 'h3(d3 d3)d3'
            build() = 5; open(1,2,1) = 0; open(1,2,1) = 1; open(1,3,1) = 2; open(1,3,1) = 3; freeCredits(4,0) = 16
            open(1,4,1) ! FULL; close(1) = 0; open(1,4,1) = 1; open(1,4,1) ! FULL
            """);
        run("promise 15: FULL if all bays of the row are in use: 4 packet bays", """
            text 'n3 n3'
            build() = 3; open(2,1,1) = 0; open(2,1,1) = 1; open(2,1,1) = 2; open(2,1,1) = 3; open(2,2,1) ! FULL
            open(2,1,1) ! FULL; close(3) = 0; open(2,2,1) = 3; open(2,2,1) ! FULL
            """);
        run("promise 15: the bays of one row are no bays of another one", Fabrics.TEN_TUNNELS + """
            count(1) = 10; open(0,5,1) ! FULL; open(1,2,1) ! FULL; open(2,7,1) ! FULL
            close(0) = 0; open(1,2,1) ! FULL; open(2,7,1) ! FULL; open(0,5,1) = 0
            """);
    }

    private static void openHopNumbers() {
        run("promise 15: FULL if there is no free hop number on a hop, with bays and credits", EIGHT_HOP_NUMBERS + """
            open(1,2,1) ! FULL; open(1,4,1) ! FULL; close(6); open(1,2,1) = 6
            """);
        run("promise 15: FULL if there is no free hop number on the first hop of four", """
            text 'h3(d3(n3) d3(s3(d3)) n3)'
            build() = 8
            open(0,5,1) = 0; open(0,5,1) = 1; open(1,2,1) = 2; open(1,4,1) = 3; open(1,2,1) = 4; close(0)
            open(1,4,1) = 0; close(4); open(2,7,1) = 4; open(1,2,1) = 5; close(3); open(0,5,1) = 3; open(2,7,1) = 6
            close(0); open(2,7,1) = 0; open(1,4,1) = 7; close(2); open(2,3,1) = 2; count(1) = 8
            router(6,4) = 4; freeCredits(1,0) = 3; open(1,6,1) ! FULL; close(6) = 0; open(1,6,1) = 6; tunnel(6,4) = 4
            """);
        run("promise 15: the hop numbers from 8 to 15, the least one that no other tunnel has", EIGHT_HOP_NUMBERS + """
            hop(0,0,0,1) = 8; hop(1,0,0,1) = 9; hop(2,0,0,1) = 10; hop(3,0,0,1) = 11; hop(4,0,0,1) = 12
            hop(5,0,0,1) = 13
            hop(6,0,0,1) = 14; hop(7,0,0,1) = 15
            close(5); open(1,2,1) = 5; hop(5,0,0,1) = 13; close(7); close(3); open(1,4,1) = 3; hop(3,0,0,1) = 11
            """);
        run("promise 15: the hop numbers of each link and direction are counted by themselves", """
            text 'h3(s3 d3(n3))'
            build() = 5; open(0,2,1) = 0; open(1,3,1) = 1; open(2,4,1) = 2
            hop(0,0,0,1) = 8; hop(0,0,1,1) = 8; hop(1,0,0,1) = 9; hop(1,0,1,1) = 8; hop(2,0,0,1) = 10
            hop(2,0,1,1) = 9
            hop(2,0,2,1) = 8; hop(1,1,0,1) = 8; hop(1,1,1,1) = 8; hop(2,1,0,1) = 8; hop(2,1,1,1) = 9; hop(2,1,2,1) = 9
            """);
    }

    private static void openVideoCredits() {
        run("promise 15: video needs all 4 credits: 4 are left", """
            text 'd3(s3)'
            build() = 3; open(1,1,1) = 0; open(1,1,1) = 1; freeCredits(1,0) = 4; open(0,2,1) = 2; hop(2,0,0,2) = 4
            freeCredits(1,0) = 0; open(0,2,1) ! NO_CREDIT
            """);
        run("promise 15: video needs all 4 credits: 3 are left on the first hop", """
            text 'd3(s3(n3))'
            build() = 4; open(0,2,1) = 0; open(1,1,1) = 1; open(2,3,1) = 2; freeCredits(1,0) = 3; freeCredits(2,0) = 5
            open(0,2,1) ! NO_CREDIT; close(2) = 0; freeCredits(1,0) = 6; open(0,2,1) = 2
            """);
        run("promise 15: video needs all 4 credits: 3 are left on the last hop", """
            text 'h3(s3(n3))'
            build() = 4; open(2,3,1) = 0; open(2,3,1) = 1; open(2,3,1) = 2; freeCredits(2,0) = 3
            freeCredits(1,0) = 15
            open(0,2,1) ! NO_CREDIT; close(1) = 0; open(0,2,1) = 1; hop(1,0,0,2) = 4; hop(1,0,1,2) = 4
            freeCredits(2,0) = 2
            """);
        run("promise 15: video takes 4 where more are free, on each hop, down to depth 4", """
            text 'd3(d3(d3(s3)))'
            build() = 5; open(0,4,1) = 0; hop(0,0,0,2) = 4; hop(0,0,1,2) = 4; hop(0,0,2,2) = 4; hop(0,0,3,2) = 4
            freeCredits(1,0) = 12; freeCredits(4,0) = 8
            """);
    }

    private static void openStorageCredits() {
        run("promise 15: storage takes at most 6: 7 are free", """
            text 'd3(n3)'
            build() = 3; open(1,1,1) = 0; open(2,2,1) = 1; freeCredits(1,0) = 7; open(1,1,1) = 2; hop(2,0,0,2) = 6
            freeCredits(1,0) = 1
            """);
        run("promise 15: storage takes at most 6: 6 are free", """
            text 'd3(s3)'
            build() = 3; open(0,2,1) = 0; open(1,1,1) = 1; freeCredits(1,0) = 6; open(1,1,1) = 2; hop(2,0,0,2) = 6
            freeCredits(1,0) = 0
            """);
        run("promise 15: storage takes as many as are free: 5", """
            text 'd3(s3(n3))'
            build() = 4; open(0,2,1) = 0; open(0,2,1) = 1; open(2,3,1) = 2; freeCredits(1,0) = 5; open(1,1,1) = 3
            hop(3,0,0,2) = 5; freeCredits(1,0) = 0; hop(3,1,0,2) = 6
            """);
        run("promise 15: storage needs at least one: 1 is free, and then none", """
            text 'd3(n3)'
            build() = 3; open(1,1,1) = 0; open(1,1,1) = 1; open(2,2,1) = 2; freeCredits(1,0) = 1
            open(1,1,1) = 3; hop(3,0,0,2) = 1; hop(3,1,0,2) = 5; freeCredits(1,0) = 0; freeCredits(1,1) = 0
            open(1,1,1) ! NO_CREDIT; close(0) = 0; open(1,1,1) = 0; hop(0,0,0,2) = 6
            """);
    }

    private static void openPacketsCredits() {
        run("promise 15: packets take at most 3: 4 are free", """
            text 'd3(n3)'
            build() = 3; open(1,1,1) = 0; open(1,1,1) = 1; freeCredits(1,0) = 4; open(2,2,1) = 2; hop(2,0,0,2) = 3
            freeCredits(1,0) = 1
            """);
        run("promise 15: packets take at most 3: 3 are free", """
            text 'd3(s3(n3))'
            build() = 4; open(0,2,1) = 0; open(1,1,1) = 1; open(2,3,1) = 2; freeCredits(1,0) = 3; open(2,3,1) = 3
            hop(3,0,0,2) = 3; freeCredits(1,0) = 0
            """);
        run("promise 15: packets take as many as are free: 2", """
            text 'd3(s3(n3))'
            build() = 4; open(0,2,1) = 0; open(0,2,1) = 1; open(1,1,1) = 2; freeCredits(1,0) = 2; open(2,3,1) = 3
            hop(3,0,0,2) = 2; hop(3,0,1,2) = 3; hop(3,0,2,2) = 3; freeCredits(1,0) = 0
            """);
        run("promise 15: packets need at least one: 1 is free, and then none", """
            text 'd3(n3)'
            build() = 3; open(1,1,1) = 0; open(1,1,1) = 1; open(2,2,1) = 2; freeCredits(1,0) = 1
            open(2,2,1) = 3; hop(3,0,0,2) = 1; hop(3,0,1,2) = 3; freeCredits(1,0) = 0; open(2,2,1) ! NO_CREDIT
            """);
    }

    private static void openUpwardCredits() {
        run("promise 15: one credit is enough upward too, and none is not", """
            text 'd3(d3(n3))'
            build() = 4; open(1,2,1) = 0; open(1,2,1) = 1; open(2,3,1) = 2; freeCredits(2,1) = 1; freeCredits(1,1) = 5
            open(2,3,1) = 3; hop(3,1,1,2) = 1; hop(3,1,2,2) = 3; freeCredits(2,1) = 0; open(2,3,1) ! NO_CREDIT
            close(3) = 0; open(1,2,1) = 3; hop(3,1,0,2) = 1; hop(3,1,1,2) = 5; open(1,2,1) ! NO_CREDIT
            """);
        run("promise 15: NO_CREDIT on the first hop of four, and on the last one upward", """
            text 'h3(h3(h3(n3)) d3 d3)'
            build() = 7; open(1,5,1) = 0; open(1,5,1) = 1; open(1,6,1) = 2; open(1,6,1) = 3; freeCredits(1,0) = 0
            open(2,4,1) ! NO_CREDIT; close(3) = 0; open(2,4,1) = 3; hop(3,0,0,2) = 3; hop(3,1,3,2) = 2
            """);
        run("promise 15: NO_CREDIT on the first hop upward", """
            text 'h3(d3)'
            build() = 3; open(1,2,1) = 0; hop(0,1,0,2) = 6; open(1,2,1) = 1; hop(1,1,0,2) = 2; freeCredits(2,1) = 0
            freeCredits(2,0) = 4; freeCredits(1,0) = 12; freeCredits(1,1) = 8; open(1,2,1) ! NO_CREDIT
            """);
        run("promise 15: NO_CREDIT on the last hop upward", """
            text 'h3(d3 d3 n3)'
            build() = 5; open(1,2,1) = 0; open(1,2,1) = 1; open(1,3,1) = 2; open(2,4,1) = 3; hop(3,1,1,2) = 2
            freeCredits(1,0) = 3; freeCredits(1,1) = 0; freeCredits(4,0) = 13; freeCredits(4,1) = 5
            open(2,4,1) ! NO_CREDIT
            """);
        run("promise 15: a video tunnel uses the links downward only, and needs no credits upward", """
            text 'h3(d3(s3))'
            build() = 4; open(1,2,1) = 0; open(1,2,1) = 1; freeCredits(2,1) = 0; freeCredits(2,0) = 4
            open(1,2,1) ! NO_CREDIT; open(0,3,1) = 2; hop(2,1,0,2) = NONE
            """);
    }

    private static void openBandwidth() {
        run("promise 15: NO_BANDWIDTH if the room of the path is 0, and not if it is 1", """
            text 's3'
            build() = 2; open(0,1,7) = 0; room(1) = 0; open(0,1,1) ! NO_BANDWIDTH; open(0,1,12) ! NO_BANDWIDTH
            claim(0,6) = 6; room(1) = 1; open(0,1,12) = 1; tunnel(1,3) = 1
            """);
        run("promise 15: the room of the path is the least of its links", """
            text 'h3(s3 s1)'
            build() = 4; open(0,3,12) = 0; tunnel(0,3) = 1; open(0,3,1) ! NO_BANDWIDTH; open(0,2,12) = 1
            tunnel(1,3) = 6
            close(0) = 0; tunnel(1,3) = 7; open(0,3,1) ! NO_BANDWIDTH
            """);
        run("promise 15: the smaller one of the wanted bandwidth and the room", """
            text 's3 s3'
            build() = 3; open(0,1,7) = 0; tunnel(0,3) = 7; open(0,2,8) = 1; tunnel(1,3) = 7; tunnel(1,2) = 8
            close(1) = 0; open(0,2,6) = 1; tunnel(1,3) = 6
            """);
        run("promise 15: storage and packets need no bandwidth", """
            text 's1(d1(n1))'
            build() = 4; open(0,1,1) = 0; room(1) = 0; open(1,2,1) = 1; open(2,3,1) = 2; tunnel(1,3) = NONE
            """);
    }

    private static void openErrorsInOrder() {
        run("promise 15: BAD comes before WRONG_KIND", """
            text 's3 d3'
            build() = 3; open(0,2,0) ! BAD; open(0,2,13) ! BAD; open(1,1,0) ! BAD; open(3,0,1) ! BAD
            open(0,0,13) ! BAD
            """);
        run("promise 15: BAD and WRONG_KIND come before FULL", Fabrics.TEN_TUNNELS + """
            open(0,5,0) ! BAD; open(1,2,13) ! BAD; open(0,2,1) ! WRONG_KIND; open(1,5,1) ! WRONG_KIND
            open(2,4,1) ! WRONG_KIND
            """);
        run("promise 15: FULL, for bays, comes before NO_CREDIT", """
            text 'h3(d3 d3)'
            build() = 4; open(1,2,1) = 0; open(1,2,1) = 1; open(1,3,1) = 2; open(1,3,1) = 3; freeCredits(1,0) = 0
            open(1,2,1) ! FULL
            """);
        run("promise 15: FULL, for hop numbers, comes before NO_CREDIT", """
            text 'h3(d3(n3) d3(s3) n3)'
            build() = 7; open(0,5,1) = 0; open(0,5,1) = 1; open(1,2,1) = 2; open(1,4,1) = 3; open(2,6,1) = 4
            open(1,4,1) = 5
            close(2) = 0; open(2,6,1) = 2; open(2,6,1) = 6; close(3) = 0; open(2,3,1) = 3; open(1,4,1) = 7
            count(1) = 8; freeCredits(1,0) = 0; open(1,2,1) ! FULL; close(0) = 0; open(0,5,1) = 0; open(1,2,1) ! FULL
            """);
        run("promise 15: WRONG_KIND comes before NO_CREDIT", """
            text 'd3(n3)'
            build() = 3; open(1,1,1) = 0; open(1,1,1) = 1; open(1,1,1) = 2; freeCredits(1,0) = 0
            open(1,2,1) ! WRONG_KIND; open(2,1,1) ! WRONG_KIND; open(2,2,1) ! NO_CREDIT
            """);
        run("promise 15: NO_CREDIT comes before NO_BANDWIDTH", """
            text 's3(n3)'
            build() = 3; open(0,1,7) = 0; room(1) = 0; open(0,1,1) ! NO_BANDWIDTH; open(2,2,1) = 1
            open(0,1,1) ! NO_BANDWIDTH; open(2,2,1) = 2; freeCredits(1,0) = 2; open(0,1,1) ! NO_CREDIT
            """);
        run("promise 15: FULL comes before NO_BANDWIDTH", """
            text 's3'
            build() = 2; open(0,1,6) = 0; open(0,1,1) = 1; room(1) = 0; open(0,1,1) ! FULL
            """);
    }

    private static void openNumber() {
        run("promise 15: its number is the least one that is not open, 0 to 9", Fabrics.TEN_TUNNELS + """
            tunnel(9,0) = PACKETS; close(9) = 0; close(0) = 0; close(4) = 0
            open(2,7,1) = 0; open(1,3,1) = 4; open(0,5,1) = 9
            """);
        run("promise 15: opens a tunnel with empty queues and buffers", """
            text 'h3(d3)'
            build() = 3; open(1,2,1) = 0; offer(0,0,20) = 20; offer(0,1,20) = 20; tick(3); close(0)
            open(1,2,1) = 0; cellCount(0,0,0) = 0; cellCount(0,0,1) = 0; cellCount(0,0,2) = 0; cellCount(0,1,0) = 0
            cellCount(0,1,1) = 0; cellCount(0,1,2) = 0; hop(0,0,0,3) = 0; hop(0,0,1,3) = 0
            """);
        run("promise 15: a video tunnel with the number of a storage tunnel uses its path downward only", """
            text 's3 d3'
            build() = 3; open(1,2,1) = 0; offer(0,1,9) = 9; close(0) = 9; open(0,1,1) = 0; offer(0,1,1) ! WRONG_KIND
            hop(0,1,0,0) = NONE; cellCount(0,1,0) = NONE; tick(1) = 0; close(0) = 0
            """);
    }

    private static void openSleep() {
        run("promise 15: a video tunnel makes links that are asleep start waking, with 2 more ticks", """
            text 'h3(s3 d3)'
            build() = 4; tick(4); count(5) = 3; open(0,2,1) = 0; link(1,4) = 3; link(1,6) = 2; link(2,4) = 3
            link(2,6) = 2
            link(3,4) = 2; count(5) = 1; tick(1); link(1,6) = 1; tick(1); link(1,4) = 0; link(1,6) = 0; link(1,5) = 1
            """);
        run("promise 15: all four links of a path start waking", """
            text 'd3(d3(d3(s3)))'
            build() = 5; tick(4); count(5) = 4; open(0,4,1) = 0; count(5) = 0; link(1,6) = 2; link(2,6) = 2
            link(3,6) = 2
            link(4,6) = 2
            """);
        run("promise 15: and drowsy ones awake, all four links of a path", """
            text 'd3(d3(d3(s3)))'
            build() = 5; tick(3); link(1,4) = 1; link(4,4) = 1; open(0,4,1) = 0; link(1,4) = 0; link(2,4) = 0
            link(3,4) = 0
            link(4,4) = 0
            """);
        run("promise 15: and drowsy ones awake", """
            text 'h3(s3 d3)'
            build() = 4; tick(3); link(1,4) = 1; link(2,4) = 1; open(0,2,1) = 0; link(1,4) = 0; link(2,4) = 0
            link(3,4) = 1
            tick(1); link(1,4) = 0; link(2,4) = 0; link(3,4) = 2
            """);
        run("promise 15: links that are awake or waking stay so", """
            text 's3'
            build() = 2; tick(1); open(0,1,1) = 0; link(1,4) = 0; link(1,5) = 1; close(0) = 0; tick(3); link(1,4) = 2
            open(0,1,1) = 0; link(1,6) = 2; tick(1); link(1,6) = 1; open(0,1,1) = 1; link(1,4) = 3; link(1,6) = 1
            """);
        run("promise 15: storage and packets leave links asleep and drowsy", """
            text 'd3(n3)'
            build() = 3; tick(3); link(1,4) = 1; open(1,1,1) = 0; link(1,4) = 1; tick(1); link(1,4) = 2
            open(2,2,1) = 1
            link(1,4) = 2; link(2,4) = 2; count(5) = 2; tick(1); count(5) = 2
            """);
        run("promise 15: a video tunnel that is refused wakes nothing", """
            text 's3(n3)'
            build() = 3; open(2,2,1) = 0; open(2,2,1) = 1; open(2,2,1) = 2; tick(4); open(0,1,1) ! NO_CREDIT
            link(1,4) = 2
            """);
    }

    private static void close() {
        run("promise 16: the tunnel, from 0 to 9", Fabrics.TEN_TUNNELS + """
            close(-1) ! BAD; close(10) ! BAD; close(MIN) ! BAD; close(MAX) ! BAD; close(9) = 0; close(9) ! BAD
            close(0) = 0
            close(0) ! BAD; count(1) = 8
            """);
        run("promise 16: BAD if there is no such open tunnel", """
            close(0) ! BAD; close(9) ! BAD; plug(0,0,DISK,3) = 1; open(1,1,1) = 0; close(1) ! BAD; close(0) = 0
            """);
        run("promise 16: returns how many cells were lost: none", """
            text 'd3'
            build() = 2; open(1,1,1) = 0; offer(0,0,5) = 5; tick(1) = 5; close(0) = 0; count(4) = 0
            """);
        run("promise 16: all its cells in queues and buffers are lost", """
            text 'd3(d3(d3(d3)))'
            build() = 5; open(1,4,1) = 0; offer(0,0,99) = 99; offer(0,1,99) = 99; tick(3) = 0
            cellCount(0,0,1) = 12; cellCount(0,1,1) = 12; close(0) = 198; count(4) = 198; count(3) = 0
            """);
        run("promise 16: the cells that were delivered are not lost", """
            text 'd3'
            build() = 2; open(1,1,1) = 0; offer(0,0,99) = 99; tick(2) = 12; close(0) = 87; count(4) = 87
            count(3) = 12
            """);
        run("promise 16: hop numbers and credits become free", """
            text 's3 d3'
            build() = 3; open(1,2,1) = 0; open(1,2,1) = 1; open(1,2,1) = 2; freeCredits(2,0) = 0
            open(1,2,1) ! NO_CREDIT
            close(1) = 0; freeCredits(2,0) = 6; freeCredits(2,1) = 8; open(1,2,1) = 1; hop(1,0,0,1) = 9
            hop(1,1,0,1) = 9
            """);
    }

    private static void closeDistributes() {
        run("promise 16: bandwidth becomes free, and then it is distributed, at most to the wanted one", """
            text 'h3(s3 s3)'
            build() = 4; open(0,2,6) = 0; open(0,3,3) = 1; tunnel(1,3) = 1; close(0) = 0; tunnel(1,3) = 3
            link(1,2) = 3
            link(2,2) = 0; room(2) = 4
            """);
        run("promise 16: then it is distributed, at most by the room", """
            text 'h3(s3 s2)'
            build() = 4; open(0,2,6) = 0; open(0,3,12) = 1; tunnel(1,3) = 1; close(0) = 0; tunnel(1,3) = 3
            link(1,2) = 3
            """);
        run("promise 16: a tunnel that has what it wants gets no more", """
            text 'h3(s3 s3)'
            build() = 4; open(0,2,4) = 0; open(0,3,3) = 1; tunnel(1,3) = 3; close(0) = 0; tunnel(1,3) = 3
            """);
    }

    private static void claimArguments() {
        run("promise 17: the tunnel, from 0 to 9", """
            text 'h3(d3 d3)h3(s3 n3 n3)'
            build() = 8; open(1,2,1) = 0; open(1,2,1) = 1; open(1,3,1) = 2; open(1,3,1) = 3; open(2,6,1) = 4
            open(2,6,1) = 5
            open(2,7,1) = 6; open(2,7,1) = 7; open(0,5,1) = 8; open(0,5,1) = 9
            claim(-1,1) ! BAD; claim(10,1) ! BAD; claim(MIN,1) ! BAD; claim(MAX,1) ! BAD; claim(9,3) = 3
            claim(8,2) = 2
            """);
        run("promise 17: BAD if there is no such open tunnel", """
            claim(0,1) ! BAD; plug(0,0,SCREEN,3) = 1; open(0,1,1) = 0; claim(1,1) ! BAD; claim(0,2) = 2; close(0) = 0
            claim(0,2) ! BAD
            """);
        run("promise 17: the wanted bandwidth, 1 to 12", """
            text 's3'
            build() = 2; open(0,1,5) = 0; claim(0,0) ! BAD; claim(0,13) ! BAD; claim(0,-1) ! BAD; claim(0,MIN) ! BAD
            claim(0,MAX) ! BAD; claim(0,1) = 1; tunnel(0,2) = 1; claim(0,12) = 7; tunnel(0,2) = 12
            """);
        run("promise 17: WRONG_KIND if it is not a video tunnel", """
            text 'd3(n3)'
            build() = 3; open(1,1,5) = 0; open(2,2,5) = 1; claim(0,1) ! WRONG_KIND; claim(1,12) ! WRONG_KIND
            """);
        run("promise 17: BAD comes before WRONG_KIND", """
            text 'd3(n3)'
            build() = 3; open(1,1,5) = 0; open(2,2,5) = 1; claim(0,0) ! BAD; claim(1,13) ! BAD
            """);
    }

    private static void claimBandwidth() {
        run("promise 17: if it is less than the granted one, the granted one becomes equal to it", """
            text 's3'
            build() = 2; open(0,1,5) = 0; claim(0,5) = 5; claim(0,4) = 4; tunnel(0,2) = 4; tunnel(0,3) = 4
            room(1) = 3
            """);
        run("promise 17: if it is between the granted and the wanted one, the granted one stays", """
            text 's3'
            build() = 2; open(0,1,12) = 0; tunnel(0,3) = 7; claim(0,8) = 7; tunnel(0,2) = 8; claim(0,7) = 7
            tunnel(0,2) = 7
            """);
        run("promise 17: then it is distributed: it gets the room, but at most what it wants", """
            text 's3'
            build() = 2; open(0,1,1) = 0; claim(0,6) = 6; claim(0,7) = 7; claim(0,8) = 7; room(1) = 0
            """);
        run("promise 17: then it is distributed: what it gives up goes to others", """
            text 'h3(s3 s3)'
            build() = 4; open(0,2,6) = 0; open(0,3,4) = 1; tunnel(1,3) = 1; claim(0,5) = 5; tunnel(1,3) = 2
            claim(0,1) = 1
            tunnel(1,3) = 4; claim(0,12) = 3; tunnel(1,3) = 4
            """);
        run("promise 17: distributed in the order in which they were opened, not by number", """
            text 'h3(s3 s3)'
            build() = 4; open(0,2,1) = 0; open(0,3,4) = 1; close(0) = 0; open(0,2,3) = 0; tunnel(1,5) = 1
            tunnel(0,5) = 2
            claim(1,12) = 4; claim(0,12) = 3; claim(1,2) = 2; tunnel(0,3) = 5; claim(1,12) = 2; widen(1,true) = 0
            tunnel(1,3) = 6; tunnel(0,3) = 5
            """);
    }

    private static void offerArguments() {
        run("promise 18: the tunnel, from 0 to 9", Fabrics.TEN_TUNNELS + """
            offer(-1,0,1) ! BAD; offer(10,0,1) ! BAD; offer(MIN,0,1) ! BAD; offer(MAX,0,1) ! BAD
            offer(0,0,1) = 1; offer(9,1,1) = 1
            """);
        run("promise 18: BAD if there is no such open tunnel", """
            offer(0,0,1) ! BAD; plug(0,0,DISK,3) = 1; open(1,1,1) = 0; offer(1,0,1) ! BAD; offer(0,0,1) = 1
            close(0) = 1
            offer(0,0,1) ! BAD
            """);
        run("promise 18: the direction, 0 or 1", """
            text 'd3'
            build() = 2; open(1,1,1) = 0; offer(0,-1,1) ! BAD; offer(0,2,1) ! BAD; offer(0,MIN,1) ! BAD
            offer(0,MAX,1) ! BAD
            offer(0,0,1) = 1; offer(0,1,2) = 2; cellCount(0,0,0) = 1
            """);
        run("promise 18: how many, 1 to 99", """
            text 'd3'
            build() = 2; open(1,1,1) = 0; offer(0,0,0) ! BAD; offer(0,0,-1) ! BAD; offer(0,0,100) ! BAD
            offer(0,0,MIN) ! BAD
            offer(0,0,MAX) ! BAD; offer(0,0,1) = 1; offer(0,1,99) = 99
            """);
        run("promise 18: WRONG_KIND if the tunnel does not use this direction", """
            text 's3'
            build() = 2; open(0,1,1) = 0; offer(0,1,1) ! WRONG_KIND; offer(0,1,99) ! WRONG_KIND; offer(0,0,1) = 1
            """);
        run("promise 18: BAD comes before WRONG_KIND and FULL", """
            text 's3'
            build() = 2; open(0,1,1) = 0; offer(0,0,99) = 99; offer(0,1,0) ! BAD; offer(0,1,100) ! BAD
            offer(0,0,0) ! BAD
            offer(0,0,100) ! BAD; offer(0,2,99) ! BAD; offer(0,1,99) ! WRONG_KIND
            """);
    }

    private static void offerFull() {
        run("promise 18: FULL if there would be more than 99", """
            text 'd3'
            build() = 2; open(1,1,1) = 0; offer(0,0,98) = 98; offer(0,0,2) ! FULL; offer(0,0,99) ! FULL
            offer(0,0,1) = 99
            offer(0,0,1) ! FULL; offer(0,0,99) ! FULL; offer(0,1,99) = 99; offer(0,1,1) ! FULL
            """);
        run("promise 18: cells that have left the queue make place, those in buffers do not count", """
            text 'h3(d3)'
            build() = 3; open(1,2,1) = 0; offer(0,0,99) = 99; tick(1) = 0; cellCount(0,0,0) = 93; cellCount(0,0,1) = 6
            offer(0,0,7) ! FULL; offer(0,0,6) = 99; offer(0,0,1) ! FULL
            """);
    }

    private static void tunnel() {
        run("promise 19: the tunnel, from 0 to 9", Fabrics.TEN_TUNNELS + """
            tunnel(-1,0) ! BAD; tunnel(10,0) ! BAD; tunnel(MIN,0) ! BAD; tunnel(MAX,0) ! BAD; tunnel(0,0) = VIDEO
            tunnel(9,0) = PACKETS; tunnel(9,5) = 9; tunnel(0,5) = 0
            """);
        run("promise 19: BAD if there is no such open tunnel", """
            tunnel(0,0) ! BAD; tunnel(0,2) ! BAD; plug(0,0,DISK,3) = 1; open(1,1,1) = 0; tunnel(1,0) ! BAD
            tunnel(0,0) = 1
            close(0) = 0; tunnel(0,2) ! BAD; tunnel(0,0) ! BAD
            """);
        run("promise 19: what, from 0 to 5", """
            text 's3'
            build() = 2; open(0,1,9) = 0; tunnel(0,-1) ! BAD; tunnel(0,6) ! BAD; tunnel(0,MIN) ! BAD
            tunnel(0,MAX) ! BAD
            tunnel(0,0) = 0; tunnel(0,1) = 1; tunnel(0,2) = 9; tunnel(0,3) = 7; tunnel(0,4) = 1; tunnel(0,5) = 0
            """);
        run("promise 19: 2 and 3 are NONE unless it is a video tunnel", """
            text 's3(d3(n3))'
            build() = 4; open(0,1,2) = 0; open(1,2,2) = 1; open(2,3,2) = 2; tunnel(0,2) = 2; tunnel(0,3) = 2
            tunnel(1,2) = NONE; tunnel(1,3) = NONE; tunnel(2,2) = NONE; tunnel(2,3) = NONE; tunnel(1,6) ! BAD
            """);
        run("promise 19: the number of links of its path, from 1 to 4", """
            text 'd3(d3(d3(d3)))'
            build() = 5; open(1,1,1) = 0; open(1,4,1) = 1; tunnel(0,4) = 1; tunnel(1,4) = 4
            """);
        run("promise 19: how many tunnels had been opened before it, closed ones included", """
            text 'd3'
            build() = 2; open(1,1,1) = 0; tunnel(0,5) = 0; close(0) = 0; open(1,1,1) = 0; tunnel(0,5) = 1
            open(1,1,1) = 1
            tunnel(1,5) = 2; close(0) = 0; tunnel(1,5) = 2; open(1,1,1) = 0; tunnel(0,5) = 3
            """);
        run("promise 19: a refused open is not one that has been opened", """
            text 'd3'
            build() = 2; open(1,1,1) = 0; open(0,1,1) ! WRONG_KIND; open(1,1,0) ! BAD; open(1,1,1) = 1
            tunnel(1,5) = 1
            """);
    }

    private static void hopArguments() {
        run("promise 20: the tunnel, from 0 to 9", Fabrics.TEN_TUNNELS + """
            hop(-1,0,0,0) ! BAD; hop(10,0,0,0) ! BAD; hop(MIN,0,0,0) ! BAD; hop(MAX,0,0,0) ! BAD; hop(0,0,0,0) = 4
            hop(9,1,0,0) = 7
            """);
        run("promise 20: BAD if there is no such open tunnel", """
            hop(0,0,0,0) ! BAD; hop(0,0,-1,0) ! BAD; plug(0,0,DISK,3) = 1; open(1,1,1) = 0; hop(1,0,0,0) ! BAD
            close(0) = 0; hop(0,0,0,0) ! BAD
            """);
        run("promise 20: BAD if the direction is out of range", """
            text 'd3'
            build() = 2; open(1,1,1) = 0; hop(0,-1,0,0) ! BAD; hop(0,2,0,0) ! BAD; hop(0,MIN,0,0) ! BAD
            hop(0,MAX,0,0) ! BAD
            hop(0,0,0,0) = 1; hop(0,1,0,0) = 1
            """);
        run("promise 20: BAD if what is out of range, 0 to 3", """
            text 'd3'
            build() = 2; open(1,1,1) = 0; hop(0,0,0,-1) ! BAD; hop(0,0,0,4) ! BAD; hop(0,0,0,MIN) ! BAD
            hop(0,0,0,MAX) ! BAD
            hop(0,0,0,0) = 1; hop(0,0,0,3) = 0
            """);
        run("promise 20: NONE if the tunnel does not use this direction", """
            text 's3'
            build() = 2; open(0,1,1) = 0; hop(0,1,0,0) = NONE; hop(0,1,0,3) = NONE; hop(0,0,0,0) = 1
            """);
        run("promise 20: NONE if the tunnel has no such hop", """
            text 'd3(d3(d3(d3)))'
            build() = 5; open(1,4,1) = 0; open(1,1,1) = 1; hop(0,0,3,0) = 4; hop(0,0,4,0) = NONE; hop(0,1,3,0) = 1
            hop(0,1,4,0) = NONE; hop(1,0,0,0) = 1; hop(1,0,1,0) = NONE; hop(1,1,1,2) = NONE; hop(0,0,MAX,0) = NONE
            """);
        run("promise 20: NONE also if hop is negative", """
            text 'd3'
            build() = 2; open(1,1,1) = 0; hop(0,0,-1,0) = NONE; hop(0,1,-1,3) = NONE; hop(0,0,MIN,0) = NONE
            """);
        run("promise 20: BAD comes before NONE", """
            text 's3'
            build() = 2; open(0,1,1) = 0; hop(0,1,0,4) ! BAD; hop(0,0,1,4) ! BAD; hop(0,0,-1,-1) ! BAD
            hop(0,2,-1,0) ! BAD
            hop(1,1,0,0) ! BAD
            """);
    }

    private static void hopValues() {
        run("promise 20: hops from the host on downward, from the device on upward", """
            text 'h3(h3(h3(n3)))'
            build() = 5; open(2,4,1) = 0; hop(0,0,0,0) = 1; hop(0,0,1,0) = 2; hop(0,0,2,0) = 3; hop(0,0,3,0) = 4
            hop(0,1,0,0) = 4; hop(0,1,1,0) = 3; hop(0,1,2,0) = 2; hop(0,1,3,0) = 1
            """);
        run("promise 20: the number of cells in its buffer, 0 in the last one", """
            text 'd3(d3(d3(d3)))'
            build() = 5; open(1,4,1) = 0; offer(0,0,9) = 9; tick(1) = 0; hop(0,0,0,3) = 6; hop(0,0,1,3) = 0
            tick(1) = 0
            hop(0,0,0,3) = 0; hop(0,0,1,3) = 6; tick(1) = 0; hop(0,0,0,3) = 3; hop(0,0,1,3) = 0; hop(0,0,2,3) = 6
            tick(1) = 6; hop(0,0,3,3) = 0; hop(0,0,2,3) = 0; hop(0,0,1,3) = 3
            """);
    }

    private static void cellCountArguments() {
        run("promise 21: the tunnel, from 0 to 9", Fabrics.TEN_TUNNELS + """
            cellCount(-1,0,0) ! BAD; cellCount(10,0,0) ! BAD; cellCount(MIN,0,0) ! BAD; cellCount(MAX,0,0) ! BAD
            offer(0,0,4) = 4; offer(9,1,5) = 5; cellCount(0,0,0) = 4; cellCount(9,1,0) = 5
            """);
        run("promise 21: BAD if there is no such open tunnel", """
            cellCount(0,0,0) ! BAD; cellCount(0,1,0) ! BAD; plug(0,0,SCREEN,3) = 1; open(0,1,1) = 0
            cellCount(1,0,0) ! BAD
            close(0) = 0; cellCount(0,0,0) ! BAD; cellCount(0,1,0) ! BAD
            """);
        run("promise 21: BAD if the direction is out of range", """
            text 'd3'
            build() = 2; open(1,1,1) = 0; cellCount(0,-1,0) ! BAD; cellCount(0,2,0) ! BAD; cellCount(0,MIN,0) ! BAD
            cellCount(0,MAX,0) ! BAD; cellCount(0,0,0) = 0; cellCount(0,1,0) = 0
            """);
        run("promise 21: BAD if what is out of range, 0 to 2", """
            text 'd3'
            build() = 2; open(1,1,1) = 0; cellCount(0,0,-1) ! BAD; cellCount(0,0,3) ! BAD; cellCount(0,1,MIN) ! BAD
            cellCount(0,1,MAX) ! BAD; offer(0,0,9) = 9; tick(1) = 6; cellCount(0,0,0) = 3; cellCount(0,0,2) = 6
            """);
        run("promise 21: NONE if the tunnel does not use this direction", """
            text 's3'
            build() = 2; open(0,1,1) = 0; cellCount(0,1,0) = NONE; cellCount(0,1,1) = NONE; cellCount(0,1,2) = NONE
            cellCount(0,0,0) = 0; cellCount(0,0,1) = 0; cellCount(0,0,2) = 0
            """);
        run("promise 21: BAD comes before NONE", """
            text 's3'
            build() = 2; open(0,1,1) = 0; cellCount(0,1,3) ! BAD; cellCount(0,1,-1) ! BAD; cellCount(0,2,0) ! BAD
            """);
    }

    private static void cellCountValues() {
        run("promise 21: the queue from 0 to 99, and all buffers up to their credits", """
            text 'd3(d3(d3(d3)))'
            build() = 5; open(1,4,1) = 0; cellCount(0,0,0) = 0; offer(0,0,99) = 99; cellCount(0,0,0) = 99
            tick(1) = 0; cellCount(0,0,0) = 93; cellCount(0,0,1) = 6; tick(2) = 0; cellCount(0,0,1) = 12
            cellCount(0,0,0) = 87
            cellCount(0,0,2) = 0; tick(1) = 6; cellCount(0,0,2) = 6; cellCount(0,0,1) = 6; cellCount(0,1,0) = 0
            """);
        run("promise 21: those that were delivered are counted on beyond 99", """
            text 'd3'
            build() = 2; open(1,1,1) = 0; offer(0,0,99) = 99; tick(17) = 99; offer(0,0,99) = 99; tick(17) = 99
            cellCount(0,0,2) = 198; cellCount(0,1,2) = 0
            """);
    }
}

/** The boundary cases that the document names in promises 6 to 10, sentence by sentence. */
public final class RoutersEdgesTest {
    private static final Check check = new Check();

    public static void main(String[] args) {
        plugParent();
        plugPort();
        plugKindAndGeneration();
        plugOccupied();
        plugTooDeep();
        plugFull();
        plugErrorsInOrder();
        plugNumber();
        plugLink();
        unplugRouter();
        unplugGone();
        unplugTunnels();
        widenRouter();
        widenState();
        widenKeepsAndDistributes();
        router();
        plugged();
        check.end();
    }

    private static void run(String sentence, String script) {
        Script.run(check, sentence, script);
    }

    private static void plugParent() {
        run("promise 6: the parent, from 0", """
            plug(-1,0,0,3) ! BAD; plug(MIN,0,0,3) ! BAD; plug(0,0,0,3) = 1
            """);
        run("promise 6: the parent, to 7", """
            text 'h3(h3(n3 n3 n3)h3)'
            build() = 7; plug(1,2,HUB,3) = 7; unplug(3) = 1
            plug(8,0,0,3) ! BAD; plug(MAX,0,0,3) ! BAD; plug(7,0,0,3) = 3; router(3,2) = 7
            """);
        run("promise 6: BAD if the parent is not present", """
            plug(1,0,0,3) ! BAD; plug(7,0,0,3) ! BAD; plug(0,0,0,3) = 1; plug(2,0,0,3) ! BAD; plug(1,0,0,3) = 2
            unplug(1) = 2; plug(1,1,0,3) ! BAD; plug(2,0,0,3) ! BAD
            """);
    }

    private static void plugPort() {
        run("promise 6: the ports of the host", """
            plug(0,-1,0,3) ! BAD; plug(0,2,0,3) ! BAD; plug(0,MIN,0,3) ! BAD; plug(0,MAX,0,3) ! BAD
            plug(0,0,0,3) = 1; plug(0,1,0,3) = 2
            """);
        run("promise 6: the ports of a hub", """
            plug(0,0,HUB,3) = 1; plug(1,-1,0,3) ! BAD; plug(1,3,0,3) ! BAD; plug(1,2,0,3) = 2; plug(1,0,0,3) = 3
            plug(1,1,0,3) = 4
            """);
        run("promise 6: the port of a screen", """
            plug(0,0,SCREEN,3) = 1; plug(1,-1,0,3) ! BAD; plug(1,1,0,3) ! BAD; plug(1,0,0,3) = 2
            """);
        run("promise 6: the port of a disk", """
            plug(0,0,DISK,3) = 1; plug(1,-1,0,3) ! BAD; plug(1,1,0,3) ! BAD; plug(1,0,0,3) = 2
            """);
        run("promise 6: a network has no ports", """
            plug(0,0,NETWORK,3) = 1; plug(1,-1,0,3) ! BAD; plug(1,0,0,3) ! BAD; count(0) = 2
            """);
    }

    private static void plugKindAndGeneration() {
        run("promise 6: its kind, from 0", """
            plug(0,0,-1,3) ! BAD; plug(0,0,MIN,3) ! BAD; plug(0,0,0,3) = 1; router(1,0) = HUB
            """);
        run("promise 6: its kind, to 3, so that no second host comes", """
            plug(0,0,4,3) ! BAD; plug(0,0,MAX,3) ! BAD; plug(0,0,3,3) = 1; router(1,0) = NETWORK
            """);
        run("promise 6: its generation, from 1", """
            plug(0,0,0,0) ! BAD; plug(0,0,0,-1) ! BAD; plug(0,0,0,MIN) ! BAD; plug(0,0,0,1) = 1; router(1,1) = 1
            """);
        run("promise 6: its generation, to 3", """
            plug(0,0,0,4) ! BAD; plug(0,0,0,MAX) ! BAD; plug(0,0,0,3) = 1; router(1,1) = 3
            """);
    }

    private static void plugOccupied() {
        run("promise 6: OCCUPIED if there is a router in this port", """
            plug(0,1,0,3) = 1; plug(0,1,1,2) ! OCCUPIED; plug(0,0,1,2) = 2; plug(0,0,1,2) ! OCCUPIED
            router(1,0) = HUB
            plug(1,2,3,1) = 3; plug(1,2,3,1) ! OCCUPIED; plug(1,1,3,1) = 4
            """);
        run("promise 6: a port is free again when its router is gone", """
            plug(0,1,0,3) = 1; plug(0,1,0,3) ! OCCUPIED; unplug(1) = 1; plug(0,1,1,1) = 1
            """);
    }

    private static void plugTooDeep() {
        run("promise 6: TOO_DEEP if the parent has the depth 4, and not if it has the depth 3", """
            text 'd3(d3(d3))'
            build() = 4; router(3,4) = 3; plug(3,0,HUB,3) = 4; router(4,4) = 4
            plug(4,0,0,3) ! TOO_DEEP; plug(4,2,3,1) ! TOO_DEEP
            """);
    }

    private static void plugFull() {
        run("promise 6: FULL if all 8 routers are present, and not if 7 are", """
            text 'h3(h3(n3 n3 n3)h3)'
            build() = 7; plug(6,0,0,3) = 7; count(0) = 8; plug(6,1,0,3) ! FULL; plug(7,0,0,3) ! FULL
            plug(0,1,0,3) ! FULL
            unplug(4) = 1; plug(6,1,0,3) = 4; plug(6,2,0,3) ! FULL
            """);
    }

    private static void plugErrorsInOrder() {
        run("promise 6: BAD comes before OCCUPIED", """
            plug(0,0,0,3) = 1
            plug(0,0,4,3) ! BAD; plug(0,0,-1,3) ! BAD; plug(0,0,0,0) ! BAD; plug(0,0,0,4) ! BAD
            plug(0,0,0,3) ! OCCUPIED
            """);
        run("promise 6: BAD comes before TOO_DEEP", """
            text 'd3(d3(d3(d3)))'
            build() = 5; plug(4,1,0,3) ! BAD; plug(4,0,4,3) ! BAD; plug(4,0,0,0) ! BAD; plug(4,0,0,3) ! TOO_DEEP
            """);
        run("promise 6: BAD, OCCUPIED and TOO_DEEP come before FULL", """
            text 'd3(d3(d3(d3)))h3(n3 n3)'
            build() = 8; plug(5,3,0,3) ! BAD; plug(5,2,0,4) ! BAD; plug(5,2,4,3) ! BAD; plug(8,0,0,3) ! BAD
            plug(5,0,0,3) ! OCCUPIED; plug(4,0,0,3) ! TOO_DEEP; plug(5,2,0,3) ! FULL
            """);
    }

    private static void plugNumber() {
        run("promise 6: its number is the least one that is not present", """
            plug(0,0,HUB,3) = 1; plug(0,1,HUB,3) = 2; plug(1,0,NETWORK,3) = 3; plug(1,1,NETWORK,3) = 4
            unplug(3) = 1; unplug(2) = 1; plug(1,2,NETWORK,1) = 2; plug(1,0,NETWORK,1) = 3; plug(0,1,HUB,1) = 5
            """);
    }

    private static void plugLink() {
        run("promise 6: its link is not wide, awake with the idle time 0, with the load 0", """
            plug(0,0,DISK,3) = 1; widen(1,true) = 0; open(1,1,1) = 0; offer(0,0,3) = 3; tick(6); link(1,4) = 2
            unplug(1) = 1; plug(0,0,DISK,3) = 1; link(1,1) = 0; link(1,4) = 0; link(1,5) = 0; load(1,0) = 0
            capacity(1,0) = 8; tick(2); link(1,5) = 2; unplug(1) = 1; plug(0,0,DISK,3) = 1; link(1,5) = 0
            """);
        run("promise 6: the generation of its link is the smaller one of both routers", """
            plug(0,0,HUB,3) = 1; plug(1,0,HUB,1) = 2; plug(2,0,HUB,2) = 3; plug(3,0,HUB,3) = 4
            link(1,0) = 3; link(2,0) = 1; link(3,0) = 1; link(4,0) = 2
            """);
    }

    private static void unplugRouter() {
        run("promise 7: the router, not the host", """
            unplug(0) ! BAD; plug(0,0,0,3) = 1; unplug(0) ! BAD; unplug(-1) ! BAD; unplug(MIN) ! BAD; unplug(1) = 1
            """);
        run("promise 7: the router, to 7", """
            text 'h3(h3(n3 n3 n3)h3(n3))'
            build() = 8; unplug(8) ! BAD; unplug(MAX) ! BAD; unplug(7) = 1; unplug(7) ! BAD; count(0) = 7
            """);
        run("promise 7: BAD if there is no such router", """
            unplug(1) ! BAD; plug(0,0,0,3) = 1; unplug(2) ! BAD; unplug(7) ! BAD; unplug(1) = 1; unplug(1) ! BAD
            """);
    }

    private static void unplugGone() {
        run("promise 7: returns how many routers are gone: 1 if none is below", """
            text 'h3(s3 d3)'
            build() = 4; unplug(3) = 1; count(0) = 3; router(3,0) ! BAD; router(2,0) = SCREEN; plugged(1,1) = NONE
            """);
        run("promise 7: returns how many routers are gone: all seven below the host", """
            text 'h3(h3(n3 n3 n3)h3(n3))'
            build() = 8; unplug(1) = 7; count(0) = 1; plugged(0,0) = NONE; router(1,0) ! BAD; router(7,0) ! BAD
            """);
        run("promise 7: with all routers below it, down to depth 4, and with none beside it", """
            text 'd3(d3(d3(d3)))h3(n3)'
            build() = 7; unplug(2) = 3; count(0) = 4; router(1,5) = 0; router(5,5) = 1; router(4,0) ! BAD
            """);
        run("promise 7: a router with a greater number than that of its child takes it along", """
            text 'n3 h3(h3)'
            build() = 4; unplug(1) = 1; plug(3,0,NETWORK,1) = 1; unplug(3) = 2; router(1,0) ! BAD; count(0) = 2
            """);
    }

    private static void unplugTunnels() {
        run("promise 7: tunnels whose path uses one of the links are closed, and no others", """
            text 'h3(d3(n3) d3)d3'
            build() = 6; open(1,2,1) = 0; open(2,3,1) = 1; open(1,4,1) = 2; open(1,5,1) = 3
            offer(0,0,1) = 1; offer(1,1,2) = 2; offer(2,0,4) = 4; offer(3,0,8) = 8
            unplug(3) = 1; count(1) = 3; count(4) = 2; tunnel(1,0) ! BAD
            unplug(2) = 1; count(1) = 2; count(4) = 3; tunnel(0,0) ! BAD
            unplug(1) = 2; count(1) = 1; count(4) = 7; cellCount(3,0,0) = 8; count(8) = 4
            """);
        run("promise 7: without tunnels on its links none is closed and no cell is lost", """
            text 'd3 h3'
            build() = 3; open(1,1,1) = 0; offer(0,0,9) = 9; unplug(2) = 1; count(1) = 1; count(4) = 0
            cellCount(0,0,0) = 9
            """);
        run("promise 7: after the routers are gone, it is distributed", """
            text 'h3(s3 s3)'
            build() = 4; open(0,2,4) = 0; open(0,3,9) = 1; tunnel(1,3) = 3; unplug(2) = 1; tunnel(1,3) = 7
            link(1,2) = 7
            """);
        run("promise 7: all tunnels to the router are closed, so that none gets what another one had", """
            text 'h3(s3)s3'
            build() = 4; open(0,2,7) = 0; open(0,3,9) = 1; tunnel(1,3) = 7; unplug(1) = 2; tunnel(1,3) = 7
            count(1) = 1
            """);
    }

    private static void widenRouter() {
        run("promise 8: the router whose link it is, not the host", """
            widen(0,true) ! BAD; widen(0,false) ! BAD; widen(1,true) ! BAD; plug(0,0,0,3) = 1; widen(0,true) ! BAD
            widen(-1,true) ! BAD; widen(MIN,false) ! BAD; widen(2,true) ! BAD; widen(1,true) = 0
            """);
        run("promise 8: the router whose link it is, to 7", """
            text 'h3(h3(n3 n3 n3)h3(n3))'
            build() = 8; widen(8,true) ! BAD; widen(MAX,false) ! BAD; widen(7,true) = 0; link(7,1) = 1; link(6,1) = 0
            """);
        run("promise 8: WRONG_KIND if the generation of the link is not 3", """
            text 'h3(s2 s1 s3)h2(s3)'
            build() = 7; widen(2,true) ! WRONG_KIND; widen(2,false) ! WRONG_KIND; widen(3,true) ! WRONG_KIND
            widen(5,true) ! WRONG_KIND; widen(6,true) ! WRONG_KIND; widen(6,false) ! WRONG_KIND
            widen(1,true) = 0; widen(4,true) = 0
            """);
        run("promise 8: returns 1 if it was wide before, otherwise 0", """
            plug(0,0,0,3) = 1; widen(1,false) = 0; widen(1,true) = 0; widen(1,true) = 1; link(1,1) = 1
            widen(1,false) = 1
            widen(1,false) = 0; link(1,1) = 0
            """);
    }

    private static void widenState() {
        run("promise 8: STATE if it shall not be wide and the reserve is greater than the limit that it would have", """
            text 's3'
            build() = 2; widen(1,true) = 0; open(0,1,8) = 0; link(1,2) = 8; link(1,3) = 11
            widen(1,false) ! STATE; link(1,1) = 1; claim(0,7) = 7; widen(1,false) = 1; link(1,3) = 7; tunnel(0,3) = 7
            """);
        run("promise 8: no STATE if it shall be wide, or is not wide, with the reserve at the limit", """
            text 's3'
            build() = 2; open(0,1,7) = 0; link(1,2) = 7; widen(1,false) = 0; widen(1,true) = 0; claim(0,11) = 11
            widen(1,true) = 1; widen(1,false) ! STATE
            """);
        run("promise 8: the reserve is the sum over all video tunnels", """
            text 'h3(s3 s3)'
            build() = 4; widen(1,true) = 0; open(0,2,4) = 0; open(0,3,4) = 1; widen(1,false) ! STATE
            claim(1,3) = 3; widen(1,false) = 1; claim(1,4) = 3
            """);
    }

    private static void widenKeepsAndDistributes() {
        run("promise 8: its load in both directions stays", """
            text 'd3'
            build() = 2; open(1,1,1) = 0; offer(0,0,4) = 4; offer(0,1,2) = 2; tick(1) = 6
            load(1,0) = 0.0625f; load(1,1) = 0.03125f; widen(1,true) = 0; load(1,0) = 0.0625f; load(1,1) = 0.03125f
            widen(1,false) = 1; load(1,0) = 0.0625f; load(1,1) = 0.03125f
            """);
        run("promise 8: then it is distributed, at most to the wanted bandwidth and to the limit", """
            text 'h3(s3 s3)'
            build() = 4; open(0,2,5) = 0; open(0,3,6) = 1; tunnel(1,3) = 2; widen(1,true) = 0
            tunnel(0,3) = 5; tunnel(1,3) = 6; link(1,2) = 11; link(1,3) = 11; room(1) = 0
            """);
        run("promise 8: then it is distributed: the one opened first gets what there is", """
            text 'h3(s3 s3)'
            build() = 4; open(0,2,5) = 0; open(0,3,2) = 1; claim(1,7) = 2; claim(0,6) = 5; widen(1,true) = 0
            tunnel(0,3) = 6; tunnel(1,3) = 5
            """);
    }

    private static void router() {
        run("promise 9: NONE for the parent and the port of the host, and of no other", """
            plug(0,0,0,3) = 1; router(0,2) = NONE; router(0,3) = NONE; router(1,2) = 0; router(1,3) = 0
            """);
        run("promise 9: what, from 0 to 5", """
            plug(0,1,DISK,2) = 1
            router(1,-1) ! BAD; router(1,0) = DISK; router(1,1) = 2; router(1,3) = 1; router(1,4) = 1; router(1,5) = 0
            router(1,6) ! BAD; router(1,MIN) ! BAD; router(1,MAX) ! BAD; router(0,-1) ! BAD; router(0,6) ! BAD
            router(0,5) = 1
            """);
        run("promise 9: the router, from 0 to 7", """
            text 'h3(h3(n3 n3 n3)h3(n1))'
            build() = 8; router(-1,0) ! BAD; router(0,0) = HOST; router(7,1) = 1; router(8,0) ! BAD
            router(MIN,0) ! BAD; router(MAX,5) ! BAD; router(0,5) = 7; router(1,5) = 6; router(2,5) = 3
            router(7,5) = 0
            """);
        run("promise 9: BAD if there is no such router", """
            router(1,0) ! BAD; router(7,5) ! BAD; plug(0,0,0,3) = 1; router(2,2) ! BAD; unplug(1) = 1
            router(1,2) ! BAD
            """);
        run("promise 9: the depth, from 0 to 4", """
            text 'd3(d3(d3(d3)))'
            build() = 5; router(0,4) = 0; router(1,4) = 1; router(3,4) = 3; router(4,4) = 4; router(0,5) = 4
            router(3,5) = 1
            """);
    }

    private static void plugged() {
        run("promise 10: the port, for each kind of router", """
            text 'h3(s3 d3 n3)'
            build() = 5; plugged(0,-1) ! BAD; plugged(0,0) = 1; plugged(0,1) = NONE; plugged(0,2) ! BAD
            plugged(1,-1) ! BAD; plugged(1,0) = 2; plugged(1,2) = 4; plugged(1,3) ! BAD
            plugged(2,-1) ! BAD; plugged(2,0) = NONE; plugged(2,1) ! BAD
            plugged(3,-1) ! BAD; plugged(3,0) = NONE; plugged(3,1) ! BAD
            plugged(4,-1) ! BAD; plugged(4,0) ! BAD; plugged(1,MIN) ! BAD; plugged(1,MAX) ! BAD
            """);
        run("promise 10: the router, from 0 to 7", """
            text 'h3(h3(n3 n3 n3)h3(h3))'
            build() = 8; plugged(-1,0) ! BAD; plugged(0,0) = 1; plugged(7,2) = NONE; plugged(8,0) ! BAD
            plugged(MIN,0) ! BAD; plugged(MAX,0) ! BAD; plugged(6,0) = 7
            """);
        run("promise 10: BAD if there is no such router, NONE if there is no router in its port", """
            plugged(1,0) ! BAD; plugged(7,0) ! BAD; plug(0,1,HUB,3) = 1; plugged(1,0) = NONE; plugged(0,0) = NONE
            plugged(0,1) = 1; plug(1,0,HUB,3) = 2; plugged(1,0) = 2; unplug(2) = 1; plugged(1,0) = NONE
            plugged(2,0) ! BAD
            """);
    }
}

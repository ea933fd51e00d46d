/** The three examples of the document, with every result that stands there. */
public final class ExamplesTest {
    private static final Check check = new Check();

    public static void main(String[] args) {
        bandwidthGivenOn();
        storageOverSlowLink();
        fabricFromText();
        check.end();
    }

    private static void bandwidthGivenOn() {
        check.part("example 1");
        TunnelFabric x = new TunnelFabric();
        check.due(1, x.plug(0, 0, 0, 3), "plug(0,0,0,3)");
        check.due(2, x.plug(1, 0, 1, 3), "plug(1,0,1,3)");
        check.due(3, x.plug(1, 1, 1, 2), "plug(1,1,1,2)");
        check.due(0, x.open(0, 2, 5), "open(0,2,5)");
        check.due(1, x.open(0, 3, 5), "open(0,3,5)");
        check.due(2, x.tunnel(1, 3), "tunnel(1,3)");
        check.due(7, x.link(1, 2), "link(1,2)");
        check.due(7, x.link(1, 3), "link(1,3)");
        check.due(1, x.gain(0), "gain(0)");
        check.due(0, x.close(0), "close(0)");
        check.due(3, x.tunnel(1, 3), "tunnel(1,3)");
        check.due(-2, x.open(1, 2, 1), "open(1,2,1)");
        check.due(9, x.hop(1, 0, 0, 1), "hop(1,0,0,1)");
        check.due(12, x.room(0), "room(0)");
    }

    private static void storageOverSlowLink() {
        check.part("example 2");
        TunnelFabric x = new TunnelFabric();
        check.due(1, x.plug(0, 0, 2, 1), "plug(0,0,2,1)");
        check.due(0, x.open(1, 1, 1), "open(1,1,1)");
        check.due(10, x.offer(0, 0, 10), "offer(0,0,10)");
        check.due(2, x.tick(1), "tick(1)");
        check.due(2, x.cellCount(0, 0, 2), "cellCount(0,0,2)");
        check.due(4, x.tick(2), "tick(2)");
        check.due(4, x.cellCount(0, 0, 0), "cellCount(0,0,0)");
        check.due(1051262976, x.load(1, 0), "load(1,0)");
        check.due(-5, x.offer(0, 0, 99), "offer(0,0,99)");
        check.due(1073741824, x.fairShare(0, 0), "fairShare(0,0)");
        check.due(1, x.unplug(1), "unplug(1)");
        check.due(4, x.count(4), "count(4)");
    }

    private static void fabricFromText() {
        check.part("example 3");
        TunnelFabric x = new TunnelFabric();
        check.due(1, x.type(104), "type(104)");
        check.due(2, x.type(51), "type(51)");
        check.due(3, x.type(40), "type(40)");
        check.due(4, x.type(115), "type(115)");
        check.due(4, x.fault(), "fault()");
        check.due(5, x.type(50), "type(50)");
        check.due(6, x.type(41), "type(41)");
        check.due(3, x.build(), "build()");
        check.due(2, x.router(2, 4), "router(2,4)");
        check.due(0, x.tick(4), "tick(4)");
        check.due(2, x.link(2, 4), "link(2,4)");
        check.due(2, x.count(5), "count(5)");
        check.due(1, x.bestPort(3), "bestPort(3)");
    }
}

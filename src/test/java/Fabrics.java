/** Fabrics that several tests begin with. */
final class Fabrics {
    /** A script for a fabric in which all ten tunnels are open: 0 and 1 video, 2 to 5 storage, 6 to 9 packets. */
    static final String TEN_TUNNELS = """
        text 'h3(d3 d3)h3(s3 n3 n3)'
        build() = 8
        open(0,5,1) = 0; open(0,5,1) = 1; open(1,2,1) = 2; open(1,2,1) = 3; open(1,3,1) = 4; open(1,3,1) = 5
        open(2,6,1) = 6; open(2,6,1) = 7; open(2,7,1) = 8; open(2,7,1) = 9
        """;

    private Fabrics() {
    }

    /** Types a text at the end of the one that is there. */
    static void write(TunnelFabric x, String text) {
        for (int i = 0; i < text.length(); i++) {
            x.type(text.charAt(i));
        }
    }

    static TunnelFabric built(String text) {
        TunnelFabric x = new TunnelFabric();
        write(x, text);
        if (x.build() < 0) {
            throw new IllegalStateException("the text of a test has a fault: " + text);
        }
        return x;
    }
}

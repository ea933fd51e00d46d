/** Fabrics that several tests begin with. */
final class Fabrics {
    private Fabrics() {
    }

    /** Types a text at the end of the one that is there. */
    static void write(TunnelFabric x, String text) {
        for (int i = 0; i < text.length(); i++) {
            x.type(text.charAt(i));
        }
    }

    static TunnelFabric built(String text) {
        TunnelFabric x = new TunnelFabric();
        write(x, text);
        if (x.build() < 0) {
            throw new IllegalStateException("the text of a test has a fault: " + text);
        }
        return x;
    }
}

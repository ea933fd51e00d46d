import java.util.Random;

/** Long runs of calls on the class and on the plain model: every answer must be the same. The seeds are fixed. */
public final class AgreementTest {
    private static final Check check = new Check();
    private static final int RUNS = 400;
    private static final int CALLS = 512;
    // Numbers that a cast to a byte or a short, or a sum that wraps round, would take for small ones.
    private static final int[] FAR = {
        Integer.MIN_VALUE, Integer.MIN_VALUE + 200, Integer.MAX_VALUE - 99, -65536, 65536, -256, 256, 1 << 24};
    private static final String[] TEXTS = {
        "h3(s3d3n3)h2(n1 s2(d3))", "h3(h3(h3(s3 d2 n3)))", "s3(d3(n3))d3(s3)", " h 3 ( s 2 ) ", "h3(s3s2d3)d3(n2)",
        "h3(h3(s3d3n3)s3n2)", "d1(d2(d3(d3)))n3", "h3(h3(h3(s3(s3))))", "h3(h3(s3d3n3)h3(s3d3n3))", "n3(s",
        "h3(n2n2n2n2)", "h3()h3()h3()", "h4", "x", "", "   ", "h3)", "h3(d3(d2(d1(n1))))", "n3()n1( )"};

    private final Random random;
    private final TunnelFabric x = new TunnelFabric();
    private final PlainFabric y = new PlainFabric();

    private AgreementTest(long seed) {
        random = new Random(seed);
    }

    public static void main(String[] args) {
        int runs = args.length > 0 ? Integer.parseInt(args[0]) : RUNS;
        for (int run = 0; run < runs; run++) {
            check.part("run " + run);
            AgreementTest test = new AgreementTest(run);
            for (int call = 0; call < CALLS; call++) {
                test.callBoth();
            }
        }
        check.end();
    }

    /** A number from 0 to most, now and then one that is beyond an end: by a few, or by far. */
    private int upTo(int most) {
        switch (random.nextInt(90)) {
            case 0: return -1 - random.nextInt(3);
            case 1: return most + 1 + random.nextInt(3);
            case 2: return FAR[random.nextInt(FAR.length)] + random.nextInt(most + 1);
            default: return random.nextInt(most + 1);
        }
    }

    private int from1To(int most) {
        return 1 + upTo(most - 1);
    }

    private int openTunnel() {
        int t = upTo(9);
        for (int i = 0; i < 5 && x.count(1) > 0 && x.tunnel(t, 0) == -1; i++) {
            t = upTo(9);
        }
        return t;
    }

    /** Mostly a present router, and mostly of a kind if it is not -1. */
    private int router(int kind) {
        int r = upTo(7);
        for (int i = 0; i < 12; i++) {
            int found = x.router(r, 0);
            if (found >= 0 && (kind == -1 || found == kind)) {
                return r;
            }
            r = upTo(7);
        }
        return r;
    }

    private void same(long fromClass, long fromModel, String call) {
        check.due(fromModel, fromClass, call);
    }

    private void callBoth() {
        int dice = random.nextInt(100);
        if (dice < 18) {
            plugAndBuild();
        } else if (dice < 55) {
            useTunnels();
        } else if (dice < 75) {
            int n = random.nextInt(3) > 0 ? from1To(5) : from1To(50);
            same(x.tick(n), y.tick(n), "tick");
        } else {
            ask();
        }
        same(x.digest(), y.digest(), "digest");
    }

    private void plugAndBuild() {
        int r = router(-1);
        switch (random.nextInt(14)) {
            case 0 -> {
                int slot = upTo(1);
                same(x.save(slot), y.save(slot), "save");
            }
            case 1 -> {
                int slot = upTo(1);
                same(x.restore(slot), y.restore(slot), "restore");
            }
            case 2 -> buildText(TEXTS[random.nextInt(TEXTS.length)]);
            case 3 -> buildText(randomText());
            case 4 -> {
                if (random.nextInt(4) == 0) {
                    same(x.unplug(r), y.unplug(r), "unplug");
                }
            }
            case 5, 6 -> {
                boolean on = random.nextBoolean();
                same(x.widen(r, on), y.widen(r, on), "widen");
            }
            case 7 -> {
                int ticks = from1To(9);
                same(x.setPatience(ticks), y.setPatience(ticks), "setPatience");
            }
            default -> {
                int port = upTo(2);
                int kind = upTo(3);
                int generation = random.nextBoolean() ? 3 : from1To(3);
                same(x.plug(r, port, kind, generation), y.plug(r, port, kind, generation), "plug");
            }
        }
    }

    private String randomText() {
        StringBuilder text = new StringBuilder();
        int length = random.nextInt(64);
        for (int i = 0; i < length; i++) {
            String signs = i % 2 == 0 ? "hsdn h)" : "123(3 2";
            text.append(random.nextInt(30) == 0 ? (char) upTo(127) : signs.charAt(random.nextInt(signs.length())));
        }
        return text.toString();
    }

    private void buildText(String text) {
        if (random.nextInt(4) > 0) {
            same(x.clearText(), y.clearText(), "clearText");
        }
        for (int i = 0; i < text.length(); i++) {
            same(x.type(text.charAt(i)), y.type(text.charAt(i)), "type");
            same(x.fault(), y.fault(), "fault of the beginning of " + text);
        }
        if (random.nextInt(3) == 0) {
            same(x.build(), y.build(), "build " + text);
        }
    }

    private void useTunnels() {
        int t = openTunnel();
        int d = upTo(1);
        switch (random.nextInt(12)) {
            case 0 -> {
                if (random.nextBoolean()) {
                    same(x.close(t), y.close(t), "close");
                }
            }
            case 1 -> {
                int wanted = from1To(12);
                same(x.claim(t, wanted), y.claim(t, wanted), "claim");
            }
            case 2, 3, 4, 5 -> {
                int kind = upTo(2);
                int r = router(random.nextInt(10) == 0 ? -1 : kind + 1);
                int wanted = from1To(12);
                same(x.open(kind, r, wanted), y.open(kind, r, wanted), "open");
            }
            default -> {
                int cells = random.nextBoolean() ? from1To(99) : from1To(20);
                same(x.offer(t, d, cells), y.offer(t, d, cells), "offer");
            }
        }
    }

    private void ask() {
        int r = router(-1);
        int t = openTunnel();
        int d = upTo(1);
        int what = upTo(8);
        int i = upTo(3);
        same(x.router(r, what), y.router(r, what), "router");
        same(x.plugged(r, i), y.plugged(r, i), "plugged");
        same(x.link(r, what), y.link(r, what), "link");
        same(x.capacity(r, d), y.capacity(r, d), "capacity");
        same(x.freeCredits(r, d), y.freeCredits(r, d), "freeCredits");
        same(x.load(r, d), y.load(r, d), "load");
        same(x.tunnel(t, what), y.tunnel(t, what), "tunnel");
        same(x.hop(t, d, i, what), y.hop(t, d, i, what), "hop");
        same(x.cellCount(t, d, what), y.cellCount(t, d, what), "cellCount");
        same(x.fairShare(t, d), y.fairShare(t, d), "fairShare");
        same(x.room(r), y.room(r), "room");
        same(x.bestPort(i), y.bestPort(i), "bestPort");
        same(x.gain(t), y.gain(t), "gain");
        same(x.bottleneck(t), y.bottleneck(t), "bottleneck");
        same(x.count(what), y.count(what), "count");
    }
}

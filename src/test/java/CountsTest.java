/** Promises 29 to 32. */
public final class CountsTest {
    private static final int BAD = -1, STATE = -8;
    private static final int MIN = Integer.MIN_VALUE, MAX = Integer.MAX_VALUE;
    private static final Check check = new Check();

    public static void main(String[] args) {
        count();
        save();
        saveAndRestoreEverything();
        restoreOverAnotherFabric();
        restoreOverOthersOfTheSameKind();
        restoreLeavesTheText();
        restoredTurns();
        digestOfNewObject();
        digest();
        errorsChangeNothing();
        check.end();
    }

    private static TunnelFabric busy() {
        TunnelFabric x = Fabrics.built("h3(s3 d2(n3)) d3");
        x.widen(1, true);
        x.open(1, 5, 1);
        x.open(0, 2, 12);
        x.close(0);
        x.open(2, 4, 1);
        x.open(1, 3, 1);
        x.offer(0, 1, 30);
        x.offer(1, 0, 30);
        x.offer(2, 0, 30);
        x.tick(4);
        return x;
    }

    private static void count() {
        check.part("promise 29");
        TunnelFabric x = busy();
        x.setPatience(7);
        Fabrics.write(x, "abc");
        check.due(6, x.count(0), "routers");
        check.due(3, x.count(1), "tunnels");
        check.due(4, x.count(2), "ticks");
        int delivered = x.cellCount(0, 0, 2) + x.cellCount(0, 1, 2) + x.cellCount(1, 0, 2) + x.cellCount(2, 0, 2)
            + x.cellCount(2, 1, 2);
        check.due(delivered, x.count(3), "delivered");
        check.dueTrue(delivered > 0, "some are delivered");
        check.due(0, x.count(4), "lost");
        check.due(1, x.count(5), "asleep");
        check.due(7, x.count(6), "patience");
        check.due(3, x.count(7), "text");
        check.due(4, x.count(8), "opened");
        int lost = x.close(0);
        check.due(lost, x.count(4), "lost");
        check.dueTrue(lost > 0, "some are lost");
        check.due(delivered, x.count(3), "delivered stay");
        int[] wrong = {-1, 9, MIN, MAX};
        for (int what : wrong) {
            check.due(BAD, x.count(what), "count " + what);
        }
    }

    private static void save() {
        check.part("promise 30");
        TunnelFabric x = busy();
        int[] wrong = {-1, 2, MIN, MAX};
        for (int slot : wrong) {
            check.due(BAD, x.save(slot), "save " + slot);
            check.due(BAD, x.restore(slot), "restore " + slot);
        }
        check.due(3, x.save(0), "save 0");
        x.close(0);
        check.due(2, x.save(1), "save 1");
        x.close(1);
        check.due(3, x.restore(0), "restore 0");
        check.due(2, x.restore(1), "restore 1");
        x.close(1);
        check.due(1, x.save(0), "save 0 again");
        check.due(2, x.restore(1), "restore 1");
        check.due(1, x.restore(0), "restore 0, in place of what was saved");
    }

    private static void saveAndRestoreEverything() {
        check.part("promise 31");
        TunnelFabric x = busy();
        check.due(STATE, x.restore(0), "restore 0 of nothing");
        check.due(STATE, x.restore(1), "restore 1 of nothing");
        long saved = x.digest();
        x.save(1);
        check.due(saved, x.digest(), "digest after save");
        check.due(STATE, x.restore(0), "restore 0 of nothing");
        long later = afterSomeCalls(x);
        check.dueTrue(later != saved, "the calls change something");
        check.due(3, x.restore(1), "restore");
        check.due(saved, x.digest(), "digest after restore");
        check.due(later, afterSomeCalls(x), "the same calls again");
        x.build();
        check.due(3, x.restore(1), "it stays saved");
        check.due(saved, x.digest(), "digest after restore");
    }

    private static long afterSomeCalls(TunnelFabric x) {
        x.setPatience(1);
        x.tick(3);
        x.claim(1, 2);
        x.offer(2, 1, 9);
        x.unplug(5);
        x.open(1, 3, 1);
        x.tick(5);
        x.widen(2, true);
        x.close(1);
        x.tick(1);
        return x.digest();
    }

    /** What was saved comes back in full where routers and tunnels of other kinds have taken all the numbers. */
    private static void restoreOverAnotherFabric() {
        TunnelFabric x = busy();
        x.tick(9);
        x.offer(1, 0, 9);
        x.tick(1);
        long saved = x.digest();
        x.save(0);
        Fabrics.write(x, "d1(d2(d3(s1)))h1(n2 n2)");
        x.build();
        check.due(0, x.open(1, 3, 1), "storage");
        check.due(1, x.open(2, 6, 1), "packets");
        check.due(2, x.open(0, 4, 1), "video");
        check.due(3, x.open(2, 7, 1), "packets");
        x.offer(0, 1, 40);
        x.offer(1, 0, 40);
        x.offer(2, 0, 40);
        x.tick(2);
        x.save(1);
        long other = x.digest();
        x.restore(0);
        check.due(saved, x.digest(), "digest of the first");
        x.tick(6);
        long later = x.digest();
        x.restore(1);
        check.due(other, x.digest(), "digest of the second");
        x.tick(6);
        x.restore(0);
        x.tick(6);
        check.due(later, x.digest(), "digest of the first, later");
    }

    /** A waking link, and the order in which tunnels were opened, are saved as well. */
    private static void restoreOverOthersOfTheSameKind() {
        TunnelFabric x = Fabrics.built("h3(s3 s3)");
        x.tick(4);
        x.open(0, 2, 6);
        x.open(0, 3, 6);
        x.close(0);
        x.open(0, 2, 9);
        x.tick(1);
        x.save(0);
        long saved = x.digest();
        x.tick(3);
        x.close(0);
        x.close(1);
        x.open(0, 3, 1);
        x.open(0, 2, 1);
        check.due(2, x.restore(0), "restore");
        check.due(saved, x.digest(), "digest");
        check.due(1, x.link(1, 6), "ticks to wake");
        check.due(1, x.tunnel(1, 5), "opened before tunnel 1");
        check.due(2, x.tunnel(0, 5), "opened before tunnel 0");
        check.due(3, x.count(8), "opened");
    }

    private static void restoreLeavesTheText() {
        TunnelFabric x = new TunnelFabric();
        Fabrics.write(x, "h3");
        x.save(0);
        Fabrics.write(x, "(s3)");
        check.due(0, x.restore(0), "restore");
        check.due(6, x.count(7), "the text stays");
        check.due(3, x.build(), "build");
        check.due(0, x.restore(0), "restore");
        check.due(1, x.count(0), "routers");
        check.due(0, x.count(7), "the text stays empty");
        x.setPatience(9);
        x.restore(0);
        check.due(3, x.count(6), "patience");
    }

    /** The tunnel that sent last by turns is not in the digest, but it is saved as well. */
    private static void restoredTurns() {
        TunnelFabric x = Fabrics.built("n1");
        for (int t = 0; t < 3; t++) {
            x.open(2, 1, 1);
            x.offer(t, 0, 20);
        }
        x.tick(1);
        x.save(0);
        x.tick(1);
        x.restore(0);
        x.tick(1);
        check.due(2, x.cellCount(0, 0, 2), "tunnel 0");
        check.due(1, x.cellCount(1, 0, 2), "tunnel 1");
        check.due(1, x.cellCount(2, 0, 2), "tunnel 2");
    }

    private static void digestOfNewObject() {
        check.part("promise 32");
        long h = 41;
        int[] numbers = {1, 0, 0, 0, 0, 0, 3, 0, 0};
        for (int v : numbers) {
            h = 31 * h + v;
        }
        for (int i = 0; i < 17; i++) {
            h = 31 * h - 1;
        }
        check.due(h, new TunnelFabric().digest(), "digest of a new object");
    }

    private static void digest() {
        TunnelFabric x = busy();
        long h = 41;
        for (int what = 0; what <= 8; what++) {
            h = 31 * h + x.count(what);
        }
        for (int r = 1; r <= 7; r++) {
            h = x.router(r, 0) == BAD ? 31 * h - 1 : ofRouter(x, h, r);
        }
        for (int t = 0; t <= 9; t++) {
            h = x.tunnel(t, 0) == BAD ? 31 * h - 1 : ofTunnel(x, h, t);
        }
        check.due(h, x.digest(), "digest");
        Fabrics.write(x, "a");
        check.dueTrue(h != x.digest(), "the text's length counts");
    }

    private static long ofRouter(TunnelFabric x, long before, int r) {
        long h = before;
        for (int what = 0; what <= 5; what++) {
            h = 31 * h + x.router(r, what);
        }
        for (int what = 0; what <= 6; what++) {
            h = 31 * h + x.link(r, what);
        }
        for (int d = 0; d <= 1; d++) {
            h = 31 * h + x.capacity(r, d);
            h = 31 * h + x.freeCredits(r, d);
            h = 31 * h + x.load(r, d);
        }
        return h;
    }

    private static long ofTunnel(TunnelFabric x, long before, int t) {
        long h = before;
        for (int what = 0; what <= 5; what++) {
            h = 31 * h + x.tunnel(t, what);
        }
        int directions = x.tunnel(t, 0) == 0 ? 1 : 2;
        for (int d = 0; d < directions; d++) {
            for (int what = 0; what <= 2; what++) {
                h = 31 * h + x.cellCount(t, d, what);
            }
            for (int i = 0; i < x.tunnel(t, 4); i++) {
                for (int what = 0; what <= 3; what++) {
                    h = 31 * h + x.hop(t, d, i, what);
                }
            }
        }
        return h;
    }

    private static void errorsChangeNothing() {
        check.part("errors");
        TunnelFabric x = busy();
        x.widen(2, true);
        x.save(0);
        Fabrics.write(x, "h3(");
        long before = x.digest();
        int[] answers = {x.type(200), x.build(), x.plug(0, 0, 0, 3), x.plug(4, 0, 0, 3), x.plug(1, 2, 4, 3),
            x.unplug(0), x.widen(3, true), x.widen(1, false), x.open(0, 3, 1), x.open(1, 3, 99), x.close(7),
            x.claim(2, 4), x.claim(1, 13), x.offer(1, 1, 5), x.offer(1, 0, 99), x.tick(0), x.tick(51),
            x.setPatience(0), x.save(2), x.restore(1)};
        for (int i = 0; i < answers.length; i++) {
            check.dueTrue(answers[i] < 0, "call " + i + " is an error");
        }
        check.due(before, x.digest(), "digest after calls that are errors");
        check.due(3, x.restore(0), "the slot stays");
    }
}

/** Promises 6 and 7: set, run, and the terms of a step and of the accounts. */
public final class StepsTest {
    public static void main(String[] args) {
        setting();
        runningOutOfRange();
        counting();
        iceAboveAndBelow();
        iceAtTheSnowLine();
        iceThatIsJustMelted();
        iceOfAFullBlock();
        iceWithoutGrowthOrMelting();
        iceUnderOtherLayers();
        erosionToTheLowerNeighbor();
        erosionOfAThinLayer();
        erosionOntoIce();
        erosionOntoAFullBlock();
        erosionDownAChain();
        erosionUpAChain();
        erosionThatMakesRoom();
        erosionFindsAllAhead();
        floating();
        Checks.end();
    }

    private static void setting() {
        int[] lowest = {-5000, 0, 0, 0, 1};
        int[] highest = {9999, 500, 500, 200, 100};
        int[] first = {2000, 100, 100, 50, 40};
        CrustBlocks x = new CrustBlocks();
        for (int what = 0; what < 5; what++) {
            settingOne(what, lowest[what], highest[what], first[what]);
            Checks.due("6: previous of " + what, x.set(what, lowest[what]), first[what]);
        }
        Checks.due("6: history", x.count(12), 5);
        Checks.due("6: another value", x.set(4, 100), 1);
        Checks.due("6: the same value", x.set(4, 100), 100);
        x.undo();
        x.undo();
        Checks.due("6: undone", x.count(5), 1);
        Checks.dueUnchanged("6: no such setting", x, () -> {
            int[] wrong = {-1, 5, 6, Integer.MIN_VALUE, Integer.MAX_VALUE};
            for (int w : wrong) {
                Checks.due("6: setting " + w, x.set(w, 50), Checks.INVALID);
            }
        });
    }

    private static void settingOne(int what, int lowest, int highest, int first) {
        CrustBlocks x = new CrustBlocks();
        Checks.due("6: previous of " + what, x.set(what, lowest), first);
        Checks.due("6: lowest of " + what, x.count(what + 1), lowest);
        Checks.due("6: lowest before " + what, x.set(what, highest), lowest);
        Checks.due("6: highest of " + what, x.count(what + 1), highest);
        Checks.dueUnchanged("6: out of range", x, () -> {
            int[] wrong = {lowest - 1, highest + 1, Integer.MIN_VALUE, Integer.MAX_VALUE};
            for (int w : wrong) {
                Checks.due("6: " + what + " to " + w, x.set(what, w), Checks.INVALID);
            }
        });
    }

    private static void runningOutOfRange() {
        CrustBlocks x = Checks.standing(Checks.row(0, 2, 24, 3000));
        Checks.dueUnchanged("7: wrong arguments", x, () -> {
            int[] wrong = {0, -1, 51, Integer.MIN_VALUE, Integer.MAX_VALUE};
            for (int w : wrong) {
                Checks.due("7: " + w, x.run(w), Checks.INVALID);
            }
        });
    }

    private static void counting() {
        CrustBlocks x = Checks.standing(Checks.row(0, 2, 24, 3000));
        for (int n = 1; n <= 19; n++) {
            Checks.due("7: fifty more", x.run(50), 50 * n);
        }
        Checks.due("7: one action each", x.count(12), 5);
        Checks.due("7: one", x.run(1), 951);
        Checks.dueUnchanged("7: one too many", x, () -> Checks.due("7: 1001", x.run(50), Checks.FULL));
        Checks.due("7: wrong steps come first", x.run(51), Checks.INVALID);
        Checks.due("7: just 1000", x.run(49), 1000);
        Checks.due("7: none is left", x.run(1), Checks.FULL);
        Checks.due("7: wrong steps come first", x.run(0), Checks.INVALID);
        x.undo();
        Checks.due("7: undone", x.count(0), 951);
        Checks.due("7: 1000 again", x.run(49), 1000);
    }

    private static void dueAccounts(String what, CrustBlocks x, int... want) {
        for (int n = 0; n < want.length; n++) {
            Checks.due(what + ", account " + (n + 2), x.account(n + 2), want[n]);
        }
        int sum = x.account(0) - x.account(1) + x.account(2) - x.account(3) - x.account(6);
        Checks.due(what + ", the sum of all", x.account(7), sum);
    }

    private static void iceAboveAndBelow() {
        CrustBlocks x = Checks.standing(Checks.row(0, 2, 24, 3000));
        x.run(1);
        Checks.dueLayers("7: ice comes", x, 0, "i*100+r24*3000");
        Checks.due("7: base 2209 * 40 // 100", x.block(0, 3), 883);
        dueAccounts("7: ice comes", x, 900, 0, 0, 0, 0);
        x.run(1);
        Checks.dueLayers("7: ice grows", x, 0, "i*200+r24*3000");
        Checks.due("7: base", x.block(0, 3), 883 + (2236 - 883) * 40 / 100);
        x.run(1);
        Checks.dueLayers("7: ice melts", x, 0, "i*100+r24*3000");
        Checks.due("7: base", x.block(0, 3), 1738);
        dueAccounts("7: ice melts", x, 1800, 900, 0, 0, 0);
        x.run(1);
        Checks.dueLayers("7: ice is gone, and the rock erodes in the same step", x, 0, "r24*2937");
        Checks.dueLayers("7: it comes on the neighbor", x, 1, "s*68");
        Checks.due("7: base of block 0", x.block(0, 3), 1897);
        Checks.due("7: base of block 1", x.block(1, 3), 18);
        dueAccounts("7: erosion", x, 1800, 1800, 1512, 1496, 16);
    }

    private static void iceAtTheSnowLine() {
        CrustBlocks x = Checks.standing(Checks.row(0, 2, 24, 3000), Checks.row(3, 0, 9, 3000), Checks.row(6, 2, 24, 3001));
        x.set(0, 3000);
        x.set(3, 0);
        x.run(1);
        Checks.dueLayers("7: the top is not greater than the snow line", x, 0, "r24*3000");
        Checks.dueLayers("7: so its ice melts", x, 3, "i*2900");
        Checks.dueLayers("7: it is greater", x, 6, "i*100+r24*3001");
        CrustBlocks y = new CrustBlocks();
        y.set(0, -5000);
        y.run(1);
        Checks.due("7: no ice on a block without layers", y.count(6), 0);
        y.addLayer(0, 0, 0, 9, 1);
        y.run(1);
        Checks.dueLayers("7: low snow line", y, 0, "i*101");
        y.addLayer(3, 0, 1, 22, 1);
        y.set(1, 1);
        y.run(1);
        Checks.dueLayers("7: the least growth", y, 3, "i*1+s*1");
    }

    private static void iceThatIsJustMelted() {
        CrustBlocks x = Checks.standing(
            Checks.row(0, 0, 9, 99), Checks.row(3, 0, 9, 100), Checks.row(5, 0, 9, 101), Checks.row(9, 0, 9, 500));
        x.run(1);
        Checks.dueLayers("7: thinner than the melting", x, 0, "");
        Checks.dueLayers("7: as thick as the melting", x, 3, "");
        Checks.dueLayers("7: thicker than the melting", x, 5, "i*1");
        Checks.dueLayers("7: thick", x, 9, "i*400");
        dueAccounts("7: what melts is what was there", x, 0, 9 * 399, 0, 0, 0);
    }

    private static void iceOfAFullBlock() {
        CrustBlocks x = new CrustBlocks();
        for (int n = 0; n < 8; n++) {
            x.addLayer(0, 0, 2, 24, 1000);
            x.addLayer(5, 0, n == 7 ? 0 : 2, n == 7 ? 9 : 24, 1000);
        }
        x.set(3, 0);
        x.run(1);
        Checks.due("7: no ninth layer", x.block(0, 0), 8);
        Checks.due("7: rock stays on top", x.layer(0, 0, 0), Checks.ROCK);
        Checks.due("7: ice that lies on top grows", x.layer(5, 0, 2), 1100);
        dueAccounts("7: a full block", x, 900, 0, 0, 0, 0);
    }

    private static void iceWithoutGrowthOrMelting() {
        CrustBlocks x = Checks.standing(
            Checks.row(0, 2, 24, 3000), Checks.row(3, 0, 9, 3000), Checks.row(6, 0, 9, 5));
        x.set(1, 0);
        x.set(2, 0);
        x.set(3, 0);
        x.run(1);
        Checks.dueLayers("7: no ice without growth", x, 0, "r24*3000");
        Checks.dueLayers("7: as thick as before", x, 3, "i*3000");
        Checks.dueLayers("7: nothing melts", x, 6, "i*5");
        dueAccounts("7: neither growth nor melting", x, 0, 0, 0, 0, 0);
    }

    private static void iceUnderOtherLayers() {
        CrustBlocks x = Checks.standing(
            Checks.row(0, 1, 22, 10), Checks.row(0, 0, 9, 50), Checks.row(5, 1, 22, 3000), Checks.row(5, 0, 9, 50));
        x.set(3, 0);
        x.run(1);
        Checks.dueLayers("7: ice under sediment does not melt", x, 0, "s*10+i*50");
        Checks.dueLayers("7: nor does it grow", x, 5, "i*100+s*3000+i*50");
    }

    private static CrustBlocks eroding(int erosion, int[]... rows) {
        CrustBlocks x = Checks.standing(rows);
        x.set(0, 9999);
        x.set(2, 0);
        x.set(3, erosion);
        return x;
    }

    private static void erosionToTheLowerNeighbor() {
        CrustBlocks x = eroding(100, Checks.row(0, 2, 24, 100), Checks.row(1, 2, 27, 1000), Checks.row(2, 2, 24, 99));
        x.run(1);
        // d = 901, x = 90, y = 90 * 27 / 22 = 110; and block 2 gives 9 (y = 9) to block 3.
        Checks.dueLayers("7: the lower of the two", x, 2, "s*110+r24*90");
        Checks.dueLayers("7: not the other", x, 0, "r24*100");
        Checks.dueLayers("7: what is left", x, 1, "r27*910");
        Checks.dueLayers("7: behind it", x, 3, "s*9");
        dueAccounts("7: lost", x, 0, 0, 90 * 27 + 9 * 24, 119 * 22, 2430 + 216 - 2618);
        CrustBlocks y = eroding(100, Checks.row(5, 1, 22, 95));
        y.run(1);
        // Both neighbors are alike: x = 9.
        Checks.dueLayers("7: the smaller number", y, 4, "s*9");
        Checks.dueLayers("7: not the greater one", y, 6, "");
        CrustBlocks z = eroding(200, Checks.row(9, 1, 22, 4));
        z.run(1);
        Checks.dueLayers("7: x = 4 * 200 / 1000 is 0", z, 9, "s*4");
        CrustBlocks last = eroding(200, Checks.row(9, 1, 22, 5));
        last.run(1);
        Checks.dueLayers("7: x is 1", last, 8, "s*1");
        Checks.dueLayers("7: of 5", last, 9, "s*4");
        CrustBlocks none = eroding(0, Checks.row(9, 1, 22, 9999));
        none.run(1);
        Checks.dueLayers("7: without erosion", none, 9, "s*9999");
    }

    private static void erosionOfAThinLayer() {
        CrustBlocks x = eroding(100, Checks.row(0, 2, 31, 3), Checks.row(0, 2, 28, 1000));
        x.run(1);
        // x would be 100, but the layer 0 has only 3: y = 93 / 22 = 4.
        Checks.dueLayers("7: gone", x, 0, "r28*1000");
        Checks.dueLayers("7: no more than it had", x, 1, "s*4");
        dueAccounts("7: thin layer", x, 0, 0, 93, 88, 5);
    }

    private static void erosionOntoIce() {
        CrustBlocks x = eroding(100, Checks.row(0, 2, 24, 1000), Checks.row(1, 0, 9, 10), Checks.row(1, 0, 9, 10),
            Checks.row(9, 2, 24, 1000), Checks.row(8, 0, 9, 10), Checks.row(8, 2, 30, 10), Checks.row(8, 1, 22, 10),
            Checks.row(5, 2, 24, 1000), Checks.row(4, 0, 9, 10), Checks.row(4, 0, 9, 10), Checks.row(4, 1, 22, 10));
        x.addLayer(4, 3, 0, 9, 5);
        x.run(1);
        // d = 980, x = 98, y = 2352 / 22 = 106; d = 970, x = 97, y = 2328 / 22 = 105; from 5, the valley is 6: y = 109.
        Checks.dueLayers("7: behind all ice", x, 1, "i*10+i*10+s*106");
        Checks.dueLayers("7: between ice and rock", x, 8, "i*10+s*105+r30*10+s*10");
        Checks.dueLayers("7: the empty neighbor is lower", x, 6, "s*109");
        CrustBlocks y = eroding(100, Checks.row(0, 2, 24, 1000), Checks.row(1, 0, 9, 10), Checks.row(1, 0, 9, 10),
            Checks.row(1, 1, 22, 10), Checks.row(1, 0, 9, 10), Checks.row(2, 2, 24, 9999));
        y.run(1);
        // From 0: x = 96, y = 104; from 2 the valley is 3.
        Checks.dueLayers("7: the sediment under the ice", y, 1, "i*10+i*10+s*114+i*10");
    }

    private static void erosionOntoAFullBlock() {
        int[][] rows = new int[17][];
        for (int n = 0; n < 8; n++) {
            rows[n] = Checks.row(0, 2, 24, 10);
            rows[n + 8] = n == 2 ? Checks.row(9, 1, 22, 10) : Checks.row(9, n < 2 ? 0 : 2, n < 2 ? 9 : 24, 10);
        }
        rows[16] = Checks.row(1, 2, 24, 1080);
        CrustBlocks x = eroding(100, rows);
        x.addLayer(8, 0, 2, 24, 1080);
        x.addLayer(2, 0, 2, 24, 5000);
        x.addLayer(7, 0, 2, 24, 5000);
        x.set(4, 1);
        x.run(1);
        Checks.dueLayers("7: no room", x, 0, "r24*10+r24*10+r24*10+r24*10+r24*10+r24*10+r24*10+r24*10");
        // d = 1000, x = 100, y = 2400 / 22 = 109; the valleys of 2 and 7 are 3 and 6: x = 500, y = 545.
        Checks.dueLayers("7: sediment takes it", x, 9, "i*10+i*10+s*119+r24*10+r24*10+r24*10+r24*10+r24*10");
        int eroded = 2 * (100 + 500) * 24;
        int laid = (109 + 2 * 545) * 22;
        dueAccounts("7: a full valley", x, 0, 0, eroded, laid, eroded - laid);
    }

    private static void erosionDownAChain() {
        CrustBlocks x = eroding(100, Checks.row(0, 2, 24, 2000), Checks.row(1, 2, 30, 1000), Checks.row(2, 1, 22, 50));
        x.run(1);
        // 0: d = 1000, x = 100, y = 109. 1: d = 950, x = 95, y = 2850 / 22 = 129. 2: d = 50, x = 5, y = 5.
        Checks.dueLayers("7: top of the chain", x, 0, "r24*1900");
        Checks.dueLayers("7: the rock under new sediment gets thinner", x, 1, "s*109+r30*905");
        Checks.dueLayers("7: sediment comes and goes", x, 2, "s*174");
        Checks.dueLayers("7: end of the chain", x, 3, "s*5");
        x.run(1);
        // The tops were 1348, 656, 128 and 4: x = 69 (y = 75), 52 and 12, each taken from the layer 0 of now.
        Checks.dueLayers("7: the rock is thinner again", x, 0, "r24*1831");
        Checks.dueLayers("7: now the sediment gets thinner", x, 1, "s*132+r30*905");
        Checks.dueLayers("7: what comes from it", x, 2, "s*214");
        CrustBlocks y = eroding(100, Checks.row(0, 2, 24, 2000), Checks.row(1, 2, 30, 7), Checks.row(1, 2, 25, 993));
        y.run(1);
        // 1: d = 1000, but x = 7: the covered layer is gone, y = 210 / 22 = 9.
        Checks.dueLayers("7: the covered rock is gone", y, 1, "s*109+r25*993");
        Checks.dueLayers("7: what it gave", y, 2, "s*9");
        CrustBlocks z = eroding(100, Checks.row(0, 2, 24, 2000), Checks.row(1, 1, 22, 7), Checks.row(1, 2, 25, 993));
        z.run(1);
        // 1: its sediment gets 109, then loses its 7.
        Checks.dueLayers("7: the sediment is not gone", z, 1, "s*109+r25*993");
        Checks.dueLayers("7: it gave 7", z, 2, "s*7");
    }

    private static void erosionUpAChain() {
        CrustBlocks x = eroding(100, Checks.row(9, 2, 24, 2000), Checks.row(8, 1, 22, 7), Checks.row(8, 0, 9, 100),
            Checks.row(8, 2, 25, 893));
        x.run(1);
        // 8 has lost its sediment before 9 gives: the sediment comes under the ice that lies on top now.
        Checks.dueLayers("7: the valley has lost its layer before", x, 8, "i*100+s*109+r25*893");
        Checks.dueLayers("7: what it gave", x, 7, "s*7");
        CrustBlocks y = eroding(100, Checks.row(9, 2, 24, 2000), Checks.row(8, 2, 30, 1000));
        y.run(1);
        Checks.dueLayers("7: on the thinner rock", y, 8, "s*109+r30*900");
        Checks.dueLayers("7: 100 * 30 / 22", y, 7, "s*136");
    }

    private static void erosionThatMakesRoom() {
        int[][] up = new int[9][];
        int[][] down = new int[9][];
        for (int n = 0; n < 8; n++) {
            up[n] = Checks.row(8, 2, 24, n == 0 ? 1 : 100);
            down[n] = Checks.row(1, 2, 24, n == 0 ? 1 : 100);
        }
        up[8] = Checks.row(9, 2, 24, 1701);
        down[8] = Checks.row(0, 2, 24, 1701);
        CrustBlocks x = eroding(100, up);
        x.run(1);
        Checks.due("7: room that the loss has made", x.block(8, 0), 8);
        Checks.due("7: sediment on top", x.layer(8, 0, 2), 109);
        Checks.dueLayers("7: 24 / 22", x, 7, "s*1");
        CrustBlocks y = eroding(100, down);
        y.run(1);
        Checks.due("7: the loss comes later", y.block(1, 0), 7);
        Checks.due("7: so no sediment lies there", y.layer(1, 0, 0), Checks.ROCK);
        dueAccounts("7: lost", y, 0, 0, 2424, 22, 2402);
    }

    private static void erosionFindsAllAhead() {
        // In the order of doing, 1 would rise above 2 by what 0 gives; but all is found ahead.
        CrustBlocks x = eroding(200, Checks.row(0, 1, 22, 2000), Checks.row(1, 1, 22, 1000), Checks.row(2, 1, 22, 1005));
        x.run(1);
        // 0: x = 200 to 1. 1: its neighbors are higher, so nothing. 2: 3 is lower, x = 201 to 3.
        Checks.dueLayers("7: block 1", x, 1, "s*1200");
        Checks.dueLayers("7: block 2", x, 2, "s*804");
        Checks.dueLayers("7: block 3", x, 3, "s*201");
        // The ice of this step counts: block 5 is covered before erosion looks, and 4 is measured against the new top.
        CrustBlocks y = Checks.standing(Checks.row(4, 1, 22, 1000), Checks.row(5, 1, 22, 1001), Checks.row(3, 0, 9, 5000));
        y.set(0, 1000);
        y.set(3, 200);
        y.run(1);
        Checks.dueLayers("7: covered", y, 5, "i*100+s*1001");
        Checks.dueLayers("7: no neighbor is lower", y, 4, "s*1000");
        Checks.dueLayers("7: ice is not eroded", y, 3, "i*5100");
    }

    private static void floating() {
        CrustBlocks x = Checks.loaded("0:r32*33;2:r24*33;4:s*3000;");
        x.set(3, 0);
        x.set(0, 9999);
        x.removeLayer(0, 0);
        x.removeLayer(2, 0);
        x.addLayer(2, 0, 2, 27, 33);
        x.addLayer(6, 0, 1, 22, 9999);
        x.run(1);
        Checks.due("7: -32 * 40 // 100 is rounded toward 0", x.block(0, 3), 32 - 12);
        Checks.due("7: 3 * 40 // 100 is 0, so 1", x.block(2, 3), 25);
        Checks.due("7: in balance", x.block(4, 3), 2000);
        Checks.due("7: 6666 * 40 // 100", x.block(6, 3), 2666);
        x.set(4, 100);
        x.run(1);
        Checks.due("7: all at once", x.block(0, 3), 0);
        Checks.due("7: all at once", x.block(2, 3), 27);
        x.addLayer(0, 0, 2, 24, 2);
        x.set(4, 1);
        x.run(1);
        Checks.due("7: 1 * 1 // 100 is 0, so 1", x.block(0, 3), 1);
        x.removeLayer(0, 0);
        x.run(1);
        Checks.due("7: -1 * 1 // 100 is 0, so -1", x.block(0, 3), 0);
        x.run(1);
        Checks.due("7: it stays in balance", x.block(0, 3), 0);
    }
}

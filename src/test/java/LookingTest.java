/** Promises 14 to 19: count, block, layer, account, density, pressure. */
public final class LookingTest {
    private static final int[] FAR = {Integer.MIN_VALUE, Integer.MAX_VALUE};

    public static void main(String[] args) {
        counting();
        highestTop();
        blocks();
        blocksThatLostLayers();
        layers();
        accounts();
        densities();
        pressures();
        submerged();
        Checks.end();
    }

    private static void counting() {
        CrustBlocks x = Checks.loaded("0:i*5+r27*100;2:s*7+i*5;4:i*1;9:r24*3000;");
        x.set(0, -17);
        x.set(1, 11);
        x.set(2, 12);
        x.set(3, 13);
        x.set(4, 14);
        x.addLayer(4, 0, 1, 22, 3);
        x.removeLayer(9, 0);
        x.take(1);
        x.append(32);
        x.append(32);
        int[] due = {0, -17, 11, 12, 13, 14, 6, 3, 1, 2, 0, 1, 5, 2};
        for (int what = 0; what < due.length; what++) {
            Checks.due("14: " + what, x.count(what), due[what]);
        }
        x.run(3);
        Checks.due("14: steps", x.count(0), 3);
        int[] wrong = {-1, 14, 15, FAR[0], FAR[1]};
        for (int w : wrong) {
            Checks.due("14: " + w, x.count(w), Checks.INVALID);
        }
    }

    private static void highestTop() {
        CrustBlocks x = Checks.standing(Checks.row(3, 0, 9, 50), Checks.row(6, 1, 22, 50), Checks.row(7, 0, 9, 49));
        Checks.due("14: the smallest of several", x.count(10), 3);
        x.addLayer(9, 0, 0, 9, 51);
        Checks.due("14: the highest", x.count(10), 9);
        CrustBlocks second = Checks.standing(Checks.row(1, 0, 9, 1));
        Checks.due("14: block 1 is the highest", second.count(10), 1);
        Checks.due("14: a block with one layer has layers", second.count(7), 1);
        Checks.due("14: it is of ice", second.count(8), 1);
        CrustBlocks y = Checks.loaded("0:r24*3000;1:r24*3000;");
        y.removeLayer(0, 0);
        y.removeLayer(1, 0);
        Checks.due("14: tops below 0 are lower than those of blocks without layers", y.count(10), 2);
    }

    private static void blocks() {
        CrustBlocks x = Checks.standing(
            Checks.row(5, 0, 9, 10), Checks.row(5, 1, 22, 100), Checks.row(5, 0, 9, 5), Checks.row(5, 2, 31, 1000));
        int weight = 90 + 2200 + 45 + 31000;
        int[] standing = {4, weight, weight / 33, 0, 1115, 1115, 135};
        int[] floating = {4, weight, weight / 33, weight / 33, 1115 - weight / 33, 1115, 135};
        for (int what = 0; what <= 6; what++) {
            Checks.due("15: " + what, x.block(5, what), standing[what]);
        }
        x.settle();
        for (int what = 0; what <= 6; what++) {
            Checks.due("15: in balance, " + what, x.block(5, what), floating[what]);
            Checks.due("15: no block -1", x.block(-1, what), Checks.INVALID);
            Checks.due("15: no block 10", x.block(10, what), Checks.INVALID);
            Checks.due("15: far below", x.block(FAR[0], what), Checks.INVALID);
            Checks.due("15: far above", x.block(FAR[1], what), Checks.INVALID);
        }
        int[] wrong = {-1, 7, FAR[0], FAR[1]};
        for (int w : wrong) {
            Checks.due("15: what " + w, x.block(5, w), Checks.INVALID);
        }
    }

    /** What has been removed from the bottom of a block counts no more. */
    private static void blocksThatLostLayers() {
        CrustBlocks x = Checks.standing(Checks.row(2, 1, 22, 10), Checks.row(2, 0, 9, 100));
        x.removeLayer(2, 1);
        int[] due = {1, 220, 6, 0, 10, 10, 0};
        for (int what = 0; what <= 6; what++) {
            Checks.due("15: one layer is left, " + what, x.block(2, what), due[what]);
        }
        Checks.due("17: the sum of all", x.account(7), 220);
        Checks.due("16: the removed one", x.layer(2, 1, 0), Checks.NONE);
    }

    private static void layers() {
        CrustBlocks x = Checks.loaded("7:i*10+s*100+r31*1000;");
        int top = 1110 - (90 + 2200 + 31000) / 33;
        int[][] due = {{0, 9, 10, top}, {1, 22, 100, top - 10}, {2, 31, 1000, top - 110}};
        for (int layer = 0; layer < 3; layer++) {
            for (int what = 0; what <= 3; what++) {
                Checks.due("16: layer " + layer + ", " + what, x.layer(7, layer, what), due[layer][what]);
            }
        }
        for (int what = 0; what <= 3; what++) {
            Checks.due("16: no fourth", x.layer(7, 3, what), Checks.NONE);
            Checks.due("16: no ninth", x.layer(7, 8, what), Checks.NONE);
            Checks.due("16: far from it", x.layer(7, FAR[1], what), Checks.NONE);
            Checks.due("16: none at all", x.layer(0, 0, what), Checks.NONE);
            Checks.due("16: negative", x.layer(7, -1, what), Checks.INVALID);
            Checks.due("16: far below", x.layer(7, FAR[0], what), Checks.INVALID);
        }
        int[] wrong = {-1, 4, FAR[0], FAR[1]};
        for (int w : wrong) {
            Checks.due("16: what " + w, x.layer(7, 0, w), Checks.INVALID);
            Checks.due("16: what " + w + " comes ahead of NONE", x.layer(7, 5, w), Checks.INVALID);
        }
        int[] blocks = {-1, 10, FAR[0], FAR[1]};
        for (int w : blocks) {
            Checks.due("16: block " + w, x.layer(w, 0, 0), Checks.INVALID);
            Checks.due("16: block " + w + " comes ahead of NONE", x.layer(w, 5, 0), Checks.INVALID);
        }
    }

    private static void accounts() {
        CrustBlocks x = Checks.standing(Checks.row(0, 2, 24, 3000), Checks.row(5, 0, 9, 400));
        x.addLayer(7, 0, 2, 31, 2000);
        x.addLayer(9, 0, 2, 31, 20);
        x.removeLayer(9, 0);
        x.set(0, 2500);
        x.run(1);
        // Ice on 0, melting on 5; 7 gives 100 * 31 = 3100 to 6: y = 140.
        int[] due = {72000 + 3600 + 62000 + 620, 620, 900, 900, 3100, 140 * 22, 20, 72000 + 3600 + 62000 - 20};
        for (int what = 0; what <= 7; what++) {
            Checks.due("17: " + what, x.account(what), due[what]);
        }
        int[] wrong = {-1, 8, FAR[0], FAR[1]};
        for (int w : wrong) {
            Checks.due("17: " + w, x.account(w), Checks.INVALID);
        }
    }

    private static void densities() {
        CrustBlocks x = Checks.loaded("0:i*10+s*100+r31*1000;");
        int base = x.block(0, 3);
        int top = 1110 - base;
        int[][] due = {
            {top, 0}, {top - 1, 9}, {top - 10, 9}, {top - 11, 22}, {top - 110, 22}, {top - 111, 31},
            {-base, 31}, {-base - 1, 33}, {-99999, 33}, {99999, 0}, {top + 1, 0},
        };
        for (int[] d : due) {
            Checks.due("18: at " + d[0], x.density(0, d[0]), d[1]);
        }
        Checks.due("18: without layers, above", x.density(1, 0), 0);
        Checks.due("18: without layers, below", x.density(1, -1), 33);
        int[] wrong = {-100000, 100000, FAR[0], FAR[1]};
        for (int w : wrong) {
            Checks.due("18: height " + w, x.density(0, w), Checks.INVALID);
        }
        int[] blocks = {-1, 10, FAR[0], FAR[1]};
        for (int w : blocks) {
            Checks.due("18: block " + w, x.density(w, 0), Checks.INVALID);
        }
    }

    private static void pressures() {
        CrustBlocks x = Checks.loaded("0:i*10+s*100+r31*1000;");
        int weight = 90 + 2200 + 31000;
        int base = weight / 33;
        // The base is 1008, so the top is 102: the ice and 92 of the sediment lie above 0.
        Checks.due("19: at 0", x.pressure(0, 0), 90 + 92 * 22);
        Checks.due("19: at 50", x.pressure(0, 50), 2290 + 42 * 31);
        Checks.due("19: at the base", x.pressure(0, base), weight);
        Checks.due("19: above the base by 1", x.pressure(0, base - 1), weight - 31);
        Checks.due("19: below the base by 1", x.pressure(0, base + 1), weight + 33);
        Checks.due("19: deepest", x.pressure(0, 99999), weight + 33 * (99999 - base));
        Checks.due("19: without layers", x.pressure(1, 99999), 33 * 99999);
        Checks.due("19: without layers at 0", x.pressure(1, 0), 0);
        CrustBlocks standing = Checks.standing(Checks.row(2, 2, 27, 500));
        Checks.due("19: on base 0", standing.pressure(2, 0), 13500);
        Checks.due("19: mantle from there", standing.pressure(2, 7), 13500 + 231);
        int[] wrong = {-1, 100000, FAR[0], FAR[1]};
        for (int w : wrong) {
            Checks.due("19: depth " + w, x.pressure(0, w), Checks.INVALID);
        }
        int[] blocks = {-1, 10, FAR[0], FAR[1]};
        for (int w : blocks) {
            Checks.due("19: block " + w, x.pressure(w, 0), Checks.INVALID);
        }
    }

    /** A block whose top lies deep, since its layers were taken from it. */
    private static void submerged() {
        CrustBlocks x = Checks.loaded("0:r32*3300;");
        x.removeLayer(0, 0);
        x.addLayer(0, 0, 2, 24, 200);
        x.addLayer(0, 0, 0, 9, 100);
        Checks.due("15: top", x.block(0, 4), 300 - 3200);
        Checks.due("16: upper side", x.layer(0, 1, 3), -3000);
        Checks.due("18: above", x.density(0, -2900), 0);
        Checks.due("18: ice", x.density(0, -2901), 9);
        Checks.due("18: ice", x.density(0, -3000), 9);
        Checks.due("18: rock", x.density(0, -3001), 24);
        Checks.due("18: rock", x.density(0, -3200), 24);
        Checks.due("18: mantle", x.density(0, -3201), 33);
        Checks.due("19: above", x.pressure(0, 2900), 0);
        Checks.due("19: in the ice", x.pressure(0, 2901), 9);
        Checks.due("19: in the rock", x.pressure(0, 3001), 924);
        Checks.due("19: in the mantle", x.pressure(0, 3201), 900 + 4800 + 33);
        x.strip(0);
        x.strip(2);
        Checks.due("18: without layers, above its base", x.density(0, -3200), 0);
        Checks.due("18: without layers, below its base", x.density(0, -3201), 33);
        Checks.due("19: without layers, at its base", x.pressure(0, 3200), 0);
        Checks.due("19: without layers, below its base", x.pressure(0, 3202), 66);
    }
}

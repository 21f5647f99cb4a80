/** Promises 1 to 5: a new object, addLayer, removeLayer, strip, settle. */
public final class LayersTest {
    public static void main(String[] args) {
        newObject();
        addingLayers();
        addingOutOfRange();
        addingToAFullBlock();
        removing();
        stripping();
        settling();
        Checks.end();
    }

    private static void newObject() {
        CrustBlocks x = new CrustBlocks();
        int[] due = {0, 2000, 100, 100, 50, 40, 0, 0, 0, 0, 0, 0, 0, 0};
        for (int what = 0; what < due.length; what++) {
            Checks.due("1: count " + what, x.count(what), due[what]);
        }
        for (int what = 0; what <= 7; what++) {
            Checks.due("1: account " + what, x.account(what), 0);
        }
        for (int block = 0; block < 10; block++) {
            for (int what = 0; what <= 6; what++) {
                Checks.due("1: block " + block + ", " + what, x.block(block, what), 0);
            }
        }
        Checks.due("1: no state to undo", x.undo(), Checks.ILLEGAL);
        Checks.due("1: empty place 0", x.restore(0), Checks.ILLEGAL);
        Checks.due("1: empty place 1", x.restore(1), Checks.ILLEGAL);
        Checks.due("1: empty text", x.clearText(), 0);
    }

    private static void addingLayers() {
        CrustBlocks x = new CrustBlocks();
        Checks.due("2: first", x.addLayer(3, 0, 2, 24, 9999), 1);
        Checks.due("2: on top", x.addLayer(3, 0, 0, 9, 1), 2);
        Checks.due("2: between", x.addLayer(3, 1, 1, 22, 70), 3);
        Checks.due("2: at the bottom", x.addLayer(3, 3, 2, 32, 5), 4);
        Checks.dueLayers("2: order", x, 3, "i*1+s*70+r24*9999+r32*5");
        Checks.due("2: base stays", x.block(3, 3), 0);
        Checks.due("2: account", x.account(0), 9 + 70 * 22 + 24 * 9999 + 160);
        Checks.due("2: removed nothing", x.account(1), 0);
        Checks.due("2: history", x.count(12), 4);
        Checks.due("2: last block", x.addLayer(9, 0, 1, 22, 1), 1);
        Checks.due("2: undone", x.undo(), 4);
        Checks.due("2: no layer again", x.block(9, 0), 0);
        Checks.due("2: account again", x.account(0), 9 + 70 * 22 + 24 * 9999 + 160);
        x.settle();
        int base = x.block(3, 3);
        x.addLayer(3, 0, 2, 30, 9999);
        Checks.due("2: a deep base stays too", x.block(3, 3), base);
    }

    private static void addingOutOfRange() {
        CrustBlocks x = Checks.standing(Checks.row(0, 2, 27, 100));
        int[][] wrong = {
            {-1, 0, 0, 9, 1}, {10, 0, 0, 9, 1}, {0, -1, 0, 9, 1}, {0, 2, 0, 9, 1}, {1, 1, 0, 9, 1},
            {0, 0, -1, 9, 1}, {0, 0, 3, 9, 1}, {0, 0, 3, 33, 1},
            {0, 0, 0, 8, 1}, {0, 0, 0, 10, 1}, {0, 0, 0, 22, 1}, {0, 0, 1, 21, 1}, {0, 0, 1, 23, 1}, {0, 0, 1, 24, 1},
            {0, 0, 2, 23, 1}, {0, 0, 2, 33, 1}, {0, 0, 0, 9, 0}, {0, 0, 0, 9, -1}, {0, 0, 0, 9, 10000},
            {Integer.MIN_VALUE, 0, 0, 9, 1}, {Integer.MAX_VALUE, 0, 0, 9, 1},
            {0, Integer.MIN_VALUE, 0, 9, 1}, {0, Integer.MAX_VALUE, 0, 9, 1},
            {0, 0, Integer.MIN_VALUE, 9, 1}, {0, 0, Integer.MAX_VALUE, 9, 1},
            {0, 0, 2, Integer.MIN_VALUE, 1}, {0, 0, 2, Integer.MAX_VALUE, 1},
            {0, 0, 0, 9, Integer.MIN_VALUE}, {0, 0, 0, 9, Integer.MAX_VALUE},
        };
        Checks.dueUnchanged("2: wrong arguments", x, () -> {
            for (int[] w : wrong) {
                Checks.due("2: " + java.util.Arrays.toString(w), x.addLayer(w[0], w[1], w[2], w[3], w[4]), Checks.INVALID);
            }
        });
    }

    private static void addingToAFullBlock() {
        CrustBlocks x = new CrustBlocks();
        for (int n = 1; n <= 8; n++) {
            Checks.due("2: layer " + n, x.addLayer(4, n - 1, 2, 23 + n, n), n);
        }
        Checks.dueUnchanged("2: a full block", x, () -> {
            Checks.due("2: ninth on top", x.addLayer(4, 0, 0, 9, 1), Checks.FULL);
            Checks.due("2: ninth at the bottom", x.addLayer(4, 8, 0, 9, 1), Checks.FULL);
            Checks.due("2: a wrong argument comes first", x.addLayer(4, 9, 0, 9, 1), Checks.INVALID);
            Checks.due("2: a wrong thickness comes first", x.addLayer(4, 0, 0, 9, 0), Checks.INVALID);
            Checks.due("2: a wrong density comes first", x.addLayer(4, 0, 0, 8, 1), Checks.INVALID);
        });
        Checks.dueLayers("2: eight", x, 4, "r24*1+r25*2+r26*3+r27*4+r28*5+r29*6+r30*7+r31*8");
    }

    private static void removing() {
        CrustBlocks x = Checks.loaded("2:i*5+s*6+r27*7000;");
        int base = x.block(2, 3);
        Checks.due("3: from the middle", x.removeLayer(2, 1), 6);
        Checks.dueLayers("3: two are left", x, 2, "i*5+r27*7000");
        Checks.due("3: account", x.account(1), 6 * 22);
        Checks.due("3: base stays", x.block(2, 3), base);
        Checks.due("3: history", x.count(12), 2);
        Checks.due("3: the last", x.removeLayer(2, 1), 7000);
        Checks.due("3: the top", x.removeLayer(2, 0), 5);
        Checks.due("3: account of all", x.account(1), 6 * 22 + 7000 * 27 + 5 * 9);
        Checks.due("3: nothing left", x.account(7), 0);
        Checks.due("3: top without layers", x.block(2, 4), -base);
        Checks.dueUnchanged("3: wrong arguments", x, () -> {
            int[][] wrong = {{2, 0}, {-1, 0}, {10, 0}, {0, 0}, {2, -1}, {2, 8}, {Integer.MAX_VALUE, 0}, {Integer.MIN_VALUE, 0},
                {2, Integer.MAX_VALUE}, {2, Integer.MIN_VALUE}};
            for (int[] w : wrong) {
                Checks.due("3: " + java.util.Arrays.toString(w), x.removeLayer(w[0], w[1]), Checks.INVALID);
            }
        });
        x.undo();
        Checks.dueLayers("3: undone", x, 2, "i*5");
        Checks.due("3: behind the last", x.removeLayer(2, 1), Checks.INVALID);
        Checks.due("3: account undone", x.account(1), 6 * 22 + 7000 * 27);
    }

    private static void stripping() {
        CrustBlocks x = Checks.loaded("0:i*5+s*6+i*7+i*8;4:i*1+i*2;9:r25*10+s*20+r26*30+i*40;");
        int base = x.block(0, 3);
        Checks.due("4: ice", x.strip(0), 6);
        Checks.dueLayers("4: block 0", x, 0, "s*6");
        Checks.dueLayers("4: block 4", x, 4, "");
        Checks.dueLayers("4: block 9", x, 9, "r25*10+s*20+r26*30");
        Checks.due("4: account", x.account(1), 9 * (5 + 7 + 8 + 1 + 2 + 40));
        Checks.due("4: base stays", x.block(0, 3), base);
        Checks.due("4: history", x.count(12), 2);
        Checks.due("4: none of it", x.strip(0), 0);
        Checks.due("4: it is an action all the same", x.count(12), 3);
        Checks.due("4: rock", x.strip(2), 2);
        Checks.due("4: account of rock", x.account(1), 9 * 63 + 250 + 780);
        Checks.due("4: sediment", x.strip(1), 2);
        Checks.due("4: nothing left", x.account(7), 0);
        Checks.dueUnchanged("4: wrong arguments", x, () -> {
            int[] wrong = {-1, 3, Integer.MIN_VALUE, Integer.MAX_VALUE};
            for (int w : wrong) {
                Checks.due("4: " + w, x.strip(w), Checks.INVALID);
            }
        });
        x.undo();
        Checks.dueLayers("4: undone", x, 9, "s*20");
        CrustBlocks full = Checks.loaded("0:i*1+i*2+i*3+i*4+i*5+i*6+i*7+s*8;");
        Checks.due("4: of a full block", full.strip(1), 1);
        Checks.dueLayers("4: a full block", full, 0, "i*1+i*2+i*3+i*4+i*5+i*6+i*7");
        Checks.due("4: all of it", full.strip(0), 7);
        Checks.due("4: none is left", full.count(6), 0);
    }

    private static void settling() {
        CrustBlocks x = Checks.standing(Checks.row(0, 2, 28, 6000), Checks.row(9, 1, 22, 1), Checks.row(5, 0, 9, 4));
        Checks.due("5: two bases change", x.settle(), 2);
        Checks.due("5: block 0", x.block(0, 3), 168000 / 33);
        Checks.due("5: weight 22 is lighter than 33", x.block(9, 3), 0);
        Checks.due("5: weight 36 is not", x.block(5, 3), 1);
        Checks.due("5: history", x.count(12), 4);
        Checks.due("5: none changes", x.settle(), 0);
        Checks.due("5: it is an action all the same", x.count(12), 5);
        x.removeLayer(0, 0);
        Checks.due("5: a block without layers", x.settle(), 1);
        Checks.due("5: its base", x.block(0, 3), 0);
        x.undo();
        Checks.due("5: undone", x.block(0, 3), 5090);
    }
}

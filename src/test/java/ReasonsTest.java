/** Promises 20 to 25: why, valley, stepsToBalance, bareTop, topIn, uneven. */
public final class ReasonsTest {
    private static final int[] NO_BLOCKS = {-1, 10, Integer.MIN_VALUE, Integer.MAX_VALUE};

    public static void main(String[] args) {
        reasons();
        valleys();
        stepsOfFloating();
        bareTops();
        topsAhead();
        topsBehindTheLimit();
        unevenPressures();
        nothingChanges();
        Checks.end();
    }

    private static void reasons() {
        CrustBlocks x = Checks.standing(
            Checks.row(0, 1, 22, 20), Checks.row(1, 0, 9, 20), Checks.row(1, 1, 22, 19), Checks.row(3, 1, 22, 19),
            Checks.row(5, 0, 9, 3), Checks.row(8, 1, 22, 1000), Checks.row(9, 1, 22, 1000));
        int[] due = {3, 2, 1, 4, 1, 2, 1, 1, 0, 3};
        for (int block = 0; block < 10; block++) {
            Checks.due("20: block " + block, x.why(block), due[block]);
        }
        x.addLayer(3, 0, 1, 22, 1);
        Checks.due("20: 20 * 50 / 1000 is 1", x.why(3), 0);
        x.set(3, 0);
        Checks.due("20: without erosion", x.why(3), 4);
        x.set(3, 200);
        Checks.due("20: with more of it", x.why(8), 0);
        // The ice of a step would cover block 8; but that step is made without its ice.
        x.set(0, -5000);
        Checks.due("20: without the ice of the step", x.why(8), 0);
        CrustBlocks low = Checks.loaded("0:r32*3300;1:r32*3300;");
        low.removeLayer(0, 0);
        Checks.due("20: no layers comes first", low.why(0), 1);
        low.addLayer(0, 0, 0, 9, 5);
        Checks.due("20: ice comes ahead of the valley", low.why(0), 2);
        low.addLayer(0, 0, 1, 22, 1);
        Checks.due("20: no neighbor is lower", low.why(0), 3);
        Checks.due("20: a lower one without sediment", low.why(1), 0);
        for (int w : NO_BLOCKS) {
            Checks.due("20: " + w, x.why(w), Checks.INVALID);
        }
    }

    private static void valleys() {
        CrustBlocks x = Checks.standing(
            Checks.row(1, 1, 22, 10), Checks.row(2, 1, 22, 5), Checks.row(4, 0, 9, 7), Checks.row(5, 1, 22, 8),
            Checks.row(6, 2, 24, 6), Checks.row(9, 2, 24, 1));
        int[] due = {Checks.NONE, 0, 3, Checks.NONE, 3, 6, 7, Checks.NONE, Checks.NONE, 8};
        for (int block = 0; block < 10; block++) {
            Checks.due("21: block " + block, x.valley(block), due[block]);
        }
        x.addLayer(3, 0, 1, 22, 3);
        x.addLayer(1, 0, 1, 22, 100);
        x.removeLayer(1, 1);
        Checks.due("21: the other one is lower", x.valley(2), 3);
        x.addLayer(6, 0, 1, 22, 1);
        Checks.due("21: of two that are alike the smaller one", x.valley(5), 4);
        CrustBlocks y = Checks.loaded("3:r24*330;4:r24*330;5:r25*330;");
        y.strip(2);
        Checks.due("21: a block without layers has one too", y.valley(4), 5);
        Checks.due("21: and at the edge", y.valley(2), 3);
        Checks.due("21: the lowest has none", y.valley(5), Checks.NONE);
        for (int w : NO_BLOCKS) {
            Checks.due("21: " + w, x.valley(w), Checks.INVALID);
        }
    }

    private static void stepsOfFloating() {
        CrustBlocks x = Checks.standing(Checks.row(0, 1, 22, 15), Checks.row(1, 1, 22, 1), Checks.row(2, 1, 22, 9999));
        // f is 10, 6, 4, 3, 2, 1.
        Checks.due("22: six", x.stepsToBalance(0), 6);
        Checks.due("22: in balance", x.stepsToBalance(1), 0);
        Checks.due("22: without layers", x.stepsToBalance(9), 0);
        x.set(4, 100);
        Checks.due("22: at once", x.stepsToBalance(2), 1);
        x.set(4, 1);
        Checks.due("22: by 1 each", x.stepsToBalance(0), 10);
        x.set(4, 50);
        // f is 6666, 3333, 1667, 834, 417, 209, 105, 53, 27, 14, 7, 4, 2, 1.
        Checks.due("22: by half", x.stepsToBalance(2), 14);
        x.settle();
        Checks.due("22: settled", x.stepsToBalance(2), 0);
        x.set(4, 40);
        x.removeLayer(0, 0);
        Checks.due("22: upward", x.stepsToBalance(0), 6);
        for (int w : NO_BLOCKS) {
            Checks.due("22: " + w, x.stepsToBalance(w), Checks.INVALID);
        }
        // Ice and erosion would change the weight; but these steps consist of floating alone.
        CrustBlocks y = Checks.standing(Checks.row(0, 2, 27, 9999));
        Checks.due("22: floating alone", y.stepsToBalance(0), floated(9999 * 27 / 33, 40));
        y.set(4, 1);
        Checks.due("22: slowly", y.stepsToBalance(0), floated(9999 * 27 / 33, 1));
    }

    private static int floated(int gap, int rate) {
        int steps = 0;
        while (gap > 0) {
            gap -= Math.max(gap * rate / 100, 1);
            steps++;
        }
        return steps;
    }

    private static void bareTops() {
        CrustBlocks x = Checks.standing(
            Checks.row(0, 0, 9, 100), Checks.row(0, 1, 22, 50), Checks.row(0, 0, 9, 7), Checks.row(0, 2, 27, 1000),
            Checks.row(1, 0, 9, 500));
        Checks.due("23: without any of its ice", x.bareTop(0), 1050 - 28100 / 33);
        Checks.due("23: of ice alone", x.bareTop(1), 0);
        Checks.due("23: without layers", x.bareTop(2), 0);
        x.settle();
        Checks.due("23: the base does not matter", x.bareTop(0), 1050 - 28100 / 33);
        for (int w : NO_BLOCKS) {
            Checks.due("23: " + w, x.bareTop(w), Checks.INVALID);
        }
    }

    private static void topsAhead() {
        CrustBlocks x = Checks.standing(Checks.row(0, 2, 24, 3000), Checks.row(1, 1, 22, 10), Checks.row(9, 2, 30, 9000));
        int[] ahead = {0, 1, 2, 7, 50, 51, 100};
        int[][] tops = new int[ahead.length][10];
        for (int n = 0; n < ahead.length; n++) {
            for (int block = 0; block < 10; block++) {
                tops[n][block] = x.topIn(block, ahead[n]);
            }
        }
        for (int n = 0; n < ahead.length; n++) {
            for (int made = n == 0 ? 0 : ahead[n - 1]; made < ahead[n]; made++) {
                x.run(1);
            }
            for (int block = 0; block < 10; block++) {
                Checks.due("24: block " + block + " in " + ahead[n], tops[n][block], x.block(block, 4));
            }
        }
        Checks.due("24: a step by hand", Checks.standing(Checks.row(0, 2, 24, 3000)).topIn(0, 1), 2217);
        int[] wrong = {-1, 101, Integer.MIN_VALUE, Integer.MAX_VALUE};
        for (int w : wrong) {
            Checks.due("24: steps " + w, x.topIn(0, w), Checks.INVALID);
        }
        for (int w : NO_BLOCKS) {
            Checks.due("24: block " + w, x.topIn(w, 1), Checks.INVALID);
        }
    }

    private static void topsBehindTheLimit() {
        CrustBlocks x = Checks.standing(Checks.row(0, 0, 9, 1));
        x.set(0, -5000);
        x.set(1, 1);
        x.set(4, 100);
        for (int n = 0; n < 20; n++) {
            x.run(50);
        }
        Checks.due("24: no step is left", x.run(1), Checks.FULL);
        Checks.due("24: the limit does not matter", x.topIn(0, 100), 1101 - 1101 * 9 / 33);
    }

    private static void unevenPressures() {
        CrustBlocks x = new CrustBlocks();
        Checks.due("25: all alike", x.uneven(500, 0), 0);
        Checks.due("25: the smallest block", x.uneven(500, 1), 0);
        Checks.due("25: the smallest block again", x.uneven(500, 2), 0);
        x.addLayer(0, 0, 0, 9, 5);
        x.addLayer(3, 0, 1, 22, 10);
        x.addLayer(6, 0, 1, 22, 10);
        Checks.due("25: difference", x.uneven(0, 0), 220);
        Checks.due("25: the greater pressure", x.uneven(0, 1), 3);
        Checks.due("25: the lesser pressure", x.uneven(0, 2), 1);
        Checks.due("25: deepest", x.uneven(99999, 0), 220);
        x.settle();
        // In balance at 6: 220 and the mantle below 6 against 33 * 6; 0 has 45 and the mantle below 1.
        Checks.due("25: difference in balance", x.uneven(6, 0), 22);
        Checks.due("25: greater in balance", x.uneven(6, 1), 3);
        Checks.due("25: lesser in balance", x.uneven(6, 2), 1);
        CrustBlocks low = Checks.loaded("9:r32*3300;8:r32*3300;");
        low.strip(2);
        Checks.due("25: the mantle lies deeper", low.uneven(5000, 0), 33 * 3200);
        Checks.due("25: the greater ones", low.uneven(5000, 1), 0);
        Checks.due("25: the lesser ones", low.uneven(5000, 2), 8);
        int[] depths = {-1, 100000, Integer.MIN_VALUE, Integer.MAX_VALUE};
        for (int w : depths) {
            Checks.due("25: depth " + w, x.uneven(w, 0), Checks.INVALID);
        }
        int[] wrong = {-1, 3, Integer.MIN_VALUE, Integer.MAX_VALUE};
        for (int w : wrong) {
            Checks.due("25: what " + w, x.uneven(0, w), Checks.INVALID);
        }
    }

    private static void nothingChanges() {
        CrustBlocks x = Checks.standing(Checks.row(0, 2, 24, 3000), Checks.row(1, 1, 22, 10), Checks.row(9, 2, 30, 9000));
        x.take(0);
        x.append(48);
        Checks.dueUnchanged("20 to 25: what would be changes nothing", x, () -> {
            for (int block = 0; block < 10; block++) {
                x.why(block);
                x.valley(block);
                x.stepsToBalance(block);
                x.bareTop(block);
                x.topIn(block, 100);
                x.uneven(1000 * block, block % 3);
            }
        });
        x.undo();
        Checks.due("24: the history is not of the steps ahead", x.count(0), 0);
    }
}

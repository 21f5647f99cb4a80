/** Promises 8 to 10: take, restore, undo. */
public final class SnapshotsTest {
    public static void main(String[] args) {
        takingAndRestoring();
        replacing();
        wrongPlaces();
        undoingEachAction();
        dropping();
        undoLeavesTheText();
        Checks.end();
    }

    private static void takingAndRestoring() {
        CrustBlocks x = Checks.loaded("0:i*10+r27*100;9:s*5;");
        int weight = 90 + 2700 + 110;
        Checks.due("8: three layers", x.take(1), 3);
        Checks.due("8: one place", x.count(11), 1);
        Checks.due("8: history", x.count(12), 2);
        x.removeLayer(0, 1);
        x.addLayer(4, 0, 0, 9, 7);
        x.set(0, 5);
        x.run(1);
        int added = x.account(0);
        int removed = x.account(1);
        int old = x.account(7);
        Checks.due("9: three layers again", x.restore(1), 3);
        Checks.dueLayers("9: block 0", x, 0, "i*10+r27*100");
        Checks.dueLayers("9: block 4", x, 4, "");
        Checks.dueLayers("9: block 9", x, 9, "s*5");
        Checks.due("9: base of block 0", x.block(0, 3), 2790 / 33);
        Checks.due("9: base of block 4", x.block(4, 3), 0);
        Checks.due("9: base of block 9", x.block(9, 3), 3);
        Checks.due("9: added", x.account(0), added + weight);
        Checks.due("9: removed", x.account(1), removed + old);
        Checks.due("9: the snow line is not of the snapshot", x.count(1), 5);
        Checks.due("9: nor are the steps", x.count(0), 1);
        Checks.due("9: it stays", x.count(11), 1);
        Checks.due("9: once more", x.restore(1), 3);
        Checks.due("9: what did not change counts too", x.account(0), added + 2 * weight);
        Checks.due("9: on both sides", x.account(1), removed + old + weight);
        x.removeLayer(0, 0);
        Checks.due("9: the snapshot is not the crust", x.restore(1), 3);
        Checks.due("9: the other place is empty", x.restore(0), Checks.ILLEGAL);
    }

    private static void replacing() {
        CrustBlocks x = Checks.loaded("0:i*10;");
        Checks.due("8: place 0", x.take(0), 1);
        x.addLayer(0, 0, 1, 22, 5);
        Checks.due("8: place 1", x.take(1), 2);
        Checks.due("8: two places", x.count(11), 2);
        x.strip(0);
        x.strip(1);
        Checks.due("8: in place of the one that is there", x.take(0), 0);
        Checks.due("8: two places still", x.count(11), 2);
        x.restore(1);
        Checks.dueLayers("9: place 1", x, 0, "s*5+i*10");
        Checks.due("9: place 0 is empty of layers, not of a snapshot", x.restore(0), 0);
        Checks.dueLayers("9: place 0", x, 0, "");
        Checks.due("9: the base of the snapshot", x.block(0, 3), 2);
    }

    private static void wrongPlaces() {
        CrustBlocks x = Checks.loaded("0:i*10;");
        x.take(0);
        Checks.dueUnchanged("8, 9: wrong places", x, () -> {
            int[] wrong = {-1, 2, Integer.MIN_VALUE, Integer.MAX_VALUE};
            for (int w : wrong) {
                Checks.due("8: " + w, x.take(w), Checks.INVALID);
                Checks.due("9: " + w, x.restore(w), Checks.INVALID);
            }
            Checks.due("9: an empty place", x.restore(1), Checks.ILLEGAL);
        });
    }

    private interface Action {
        int on(CrustBlocks x);
    }

    private static void undoingEachAction() {
        Action[] actions = {
            x -> x.addLayer(0, 0, 0, 9, 5), x -> x.removeLayer(0, 0), x -> x.strip(2), x -> x.settle(),
            x -> x.set(1, 7), x -> x.run(50), x -> x.take(0), x -> x.take(1), x -> x.restore(0), x -> x.load(),
        };
        for (int n = 0; n < actions.length; n++) {
            CrustBlocks x = Checks.standing(Checks.row(0, 2, 24, 5000), Checks.row(1, 1, 22, 40));
            x.take(0);
            x.addLayer(2, 0, 0, 9, 3000);
            Checks.write(x, "0:i*5;");
            String before = Checks.seen(x);
            actions[n].on(x);
            Checks.due("10: recorded by action " + n, x.count(12), 5);
            Checks.due("10: left behind action " + n, x.undo(), 4);
            Checks.dueSame("10: undone action " + n, Checks.seen(x), before);
        }
        CrustBlocks x = Checks.standing(Checks.row(0, 2, 24, 5000));
        x.take(0);
        x.removeLayer(0, 0);
        x.take(0);
        x.undo();
        x.restore(0);
        Checks.dueLayers("10: the snapshot before is back", x, 0, "r24*5000");
        CrustBlocks empty = new CrustBlocks();
        empty.take(1);
        empty.undo();
        Checks.due("10: the place is empty again", empty.restore(1), Checks.ILLEGAL);
        Checks.due("10: none is left", empty.undo(), Checks.ILLEGAL);
    }

    private static void dropping() {
        CrustBlocks x = new CrustBlocks();
        for (int n = 1; n <= 8; n++) {
            x.addLayer(0, 0, 2, 24, n);
            Checks.due("10: states in the history", x.count(12), Math.min(n, 5));
        }
        for (int n = 4; n >= 0; n--) {
            Checks.due("10: left", x.undo(), n);
            Checks.due("10: back by one", x.block(0, 0), 3 + n);
            Checks.due("10: its layer", x.layer(0, 0, 2), 3 + n);
        }
        Checks.dueUnchanged("10: empty", x, () -> Checks.due("10: dropped", x.undo(), Checks.ILLEGAL));
        x.addLayer(0, 0, 0, 9, 1);
        x.addLayer(0, 0, 0, 9, 2);
        Checks.due("10: two of new", x.count(12), 2);
        Checks.due("10: one is left", x.undo(), 1);
        Checks.due("10: back", x.layer(0, 0, 2), 1);
        Checks.due("10: none is left", x.undo(), 0);
        Checks.due("10: back", x.layer(0, 0, 2), 3);
    }

    private static void undoLeavesTheText() {
        CrustBlocks x = new CrustBlocks();
        x.settle();
        Checks.write(x, "0:i*5;");
        x.undo();
        Checks.due("10: the text is kept", x.count(13), 6);
        x.load();
        x.undo();
        Checks.due("10: the text does not come back", x.count(13), 0);
        Checks.due("10: append is no action", x.append(65), 1);
        Checks.due("10: nor is clearText", x.clearText(), 1);
        Checks.due("10: nothing was recorded", x.count(12), 0);
    }
}

import java.util.function.ToIntFunction;

/** "Terms", Snapshots and Undo: a test of its own for each sentence that names a boundary case. */
public final class HistoryEdgesTest {
    public static void main(String[] args) {
        Checks.sentence("There are two places for snapshots", HistoryEdgesTest::twoPlaces);
        Checks.sentence("empty at first", HistoryEdgesTest::emptyPlaces);
        Checks.sentence("A snapshot keeps the layers and bases of all blocks", HistoryEdgesTest::layersAndBases);
        Checks.sentence("A snapshot keeps the layers and bases: nothing else", HistoryEdgesTest::nothingElse);
        Checks.sentence("To restore it makes these those of the snapshot: full and empty blocks",
            HistoryEdgesTest::fullAndEmpty);
        Checks.sentence("what that adds and removes counts block by block", HistoryEdgesTest::blockByBlock);
        Checks.sentence("A history of at most 5 states is kept", HistoryEdgesTest::fiveStates);
        Checks.sentence("a state is everything but the text and the history", HistoryEdgesTest::everything);
        Checks.sentence("a state is everything but the text: append and clearText", HistoryEdgesTest::notTheText);
        Checks.sentence("Every successful call of an action records the state before it", HistoryEdgesTest::actions);
        Checks.sentence("Every successful call of an action: also one that alters nothing", HistoryEdgesTest::idleActions);
        Checks.sentence("Every successful call: a refused one records nothing", HistoryEdgesTest::refusedActions);
        Checks.sentence("a method that is called an action: no other records anything", HistoryEdgesTest::noActions);
        Checks.sentence("when a sixth one is recorded, the oldest one is dropped", HistoryEdgesTest::sixth);
        Checks.sentence("when a sixth one is recorded: many times, with undo between", HistoryEdgesTest::manyTimes);
        Checks.sentence("undo() removes the latest state from the history and restores it", HistoryEdgesTest::latest);
        Checks.end();
    }

    private static void twoPlaces() {
        CrustBlocks x = Checks.standing(Checks.row(0, 0, 9, 1));
        x.take(0);
        x.addLayer(0, 0, 1, 22, 1);
        x.take(1);
        Checks.is("take -1", x.take(-1), Checks.INVALID);
        Checks.is("take 2", x.take(2), Checks.INVALID);
        Checks.is("restore 0", x.restore(0), 1);
        Checks.is("restore 1", x.restore(1), 2);
        Checks.is("restore -1", x.restore(-1), Checks.INVALID);
        Checks.is("restore 2", x.restore(2), Checks.INVALID);
    }

    private static void emptyPlaces() {
        CrustBlocks x = new CrustBlocks();
        Checks.is("places with a snapshot", x.count(11), 0);
        Checks.is("restore 0", x.restore(0), Checks.ILLEGAL);
        Checks.is("restore 1", x.restore(1), Checks.ILLEGAL);
        x.take(1);
        Checks.is("0 is empty still", x.restore(0), Checks.ILLEGAL);
        Checks.is("1 has a snapshot, though without layers", x.restore(1), 0);
        CrustBlocks y = new CrustBlocks();
        y.take(0);
        Checks.is("1 is empty still", y.restore(1), Checks.ILLEGAL);
        Checks.is("0 has a snapshot", y.restore(0), 0);
    }

    private static void layersAndBases() {
        CrustBlocks x = Checks.loaded("0:i*1+s*2+r24*3;9:r32*9999;");
        x.addLayer(9, 0, 0, 9, 5000);
        int base = x.block(9, 3);
        x.take(0);
        x.settle();
        x.strip(2);
        x.strip(1);
        x.strip(0);
        x.settle();
        Checks.is("layers", x.restore(0), 5);
        Checks.has(x, 0, "i*1+s*2+r24*3");
        Checks.has(x, 9, "i*5000+r32*9999");
        Checks.is("a base out of balance", x.block(9, 3), base);
        Checks.is("the base of 0", x.block(0, 3), 125 / 33);
    }

    private static void nothingElse() {
        CrustBlocks x = Checks.standing(Checks.row(0, 1, 22, 3000));
        x.take(0);
        x.set(0, 1);
        x.set(1, 2);
        x.set(2, 3);
        x.set(3, 4);
        x.set(4, 5);
        x.run(7);
        x.take(1);
        x.append(32);
        int grown = x.account(2);
        x.restore(0);
        int[] due = {7, 1, 2, 3, 4, 5};
        for (int what = 0; what <= 5; what++) {
            Checks.is("count " + what, x.count(what), due[what]);
        }
        Checks.is("places", x.count(11), 2);
        Checks.is("history", x.count(12), 5);
        Checks.is("text", x.count(13), 1);
        Checks.is("ice that grew", x.account(2), grown);
    }

    private static void fullAndEmpty() {
        CrustBlocks x = Checks.loaded("0:" + Checks.rocks(8, 3) + ";");
        x.take(0);
        Checks.load(x, "0:;9:" + Checks.rocks(8, 5) + ";");
        x.take(1);
        Checks.is("0", x.restore(0), 8);
        Checks.has(x, 0, Checks.rocks(8, 3));
        Checks.has(x, 9, "");
        Checks.is("1", x.restore(1), 8);
        Checks.has(x, 0, "");
        Checks.has(x, 9, Checks.rocks(8, 5));
    }

    private static void blockByBlock() {
        CrustBlocks x = Checks.standing(Checks.row(0, 0, 9, 1), Checks.row(5, 1, 22, 1));
        x.take(0);
        x.removeLayer(5, 0);
        x.addLayer(6, 0, 1, 22, 2);
        int added = x.account(0);
        int removed = x.account(1);
        x.restore(0);
        Checks.is("block 0, which is the same, and block 5", x.account(0), added + 9 + 22);
        Checks.is("block 0 and block 6", x.account(1), removed + 9 + 44);
    }

    private static void fiveStates() {
        CrustBlocks x = new CrustBlocks();
        int[] due = {1, 2, 3, 4, 5, 5, 5};
        for (int n = 0; n < due.length; n++) {
            x.settle();
            Checks.is("behind action " + (n + 1), x.count(12), due[n]);
        }
        for (int left = 4; left >= 0; left--) {
            Checks.is("undo", x.undo(), left);
        }
        Checks.is("none is left", x.undo(), Checks.ILLEGAL);
    }

    private static void everything() {
        CrustBlocks x = Checks.standing(Checks.row(0, 1, 22, 3000), Checks.row(3, 0, 9, 50));
        x.take(0);
        x.run(2);
        String before = Checks.seen(x);
        String kept = snapshot(x, 0);
        for (int what = 0; what <= 4; what++) {
            x.set(what, 7 + what);
            x.undo();
        }
        Checks.dueSame("settings", Checks.seen(x), before);
        x.run(3);
        x.take(0);
        x.take(1);
        Checks.load(x, "0:;9:i*5;");
        for (int n = 0; n < 4; n++) {
            x.undo();
        }
        Checks.dueSame("all that is seen", Checks.seen(x), before);
        Checks.dueSame("the snapshot", snapshot(x, 0), kept);
        Checks.is("the empty place", x.restore(1), Checks.ILLEGAL);
    }

    private static String snapshot(CrustBlocks x, int place) {
        x.restore(place);
        String told = Checks.seen(x);
        x.undo();
        return told;
    }

    private static void notTheText() {
        CrustBlocks x = new CrustBlocks();
        x.settle();
        Checks.write(x, "0:i*1;");
        x.undo();
        Checks.is("what was appended stays", x.count(13), 6);
        x.settle();
        x.clearText();
        x.undo();
        Checks.is("what was cleared is gone", x.count(13), 0);
        Checks.write(x, "0:i*1;");
        x.load();
        x.undo();
        Checks.is("what was loaded is gone", x.count(13), 0);
        Checks.is("and its layers too", x.count(6), 0);
    }

    private static CrustBlocks made() {
        CrustBlocks x = Checks.standing(Checks.row(0, 2, 24, 5000), Checks.row(1, 1, 22, 40));
        x.take(0);
        x.undo();
        x.undo();
        x.undo();
        x.addLayer(0, 0, 2, 24, 5000);
        x.take(0);
        x.addLayer(0, 0, 0, 9, 50);
        Checks.write(x, "3:i*1;");
        return x;
    }

    private static void dueRecorded(String call, CrustBlocks x, ToIntFunction<CrustBlocks> action) {
        int states = x.count(12);
        String before = Checks.seen(x);
        Checks.is(call + " is successful", action.applyAsInt(x) >= -5000 ? 1 : 0, 1);
        Checks.is(call + " records a state", x.count(12), states + 1);
        Checks.is("undo behind " + call, x.undo(), states);
        Checks.dueSame("undo behind " + call, Checks.seen(x), before);
    }

    private static void actions() {
        dueRecorded("addLayer", made(), x -> x.addLayer(5, 0, 0, 9, 1));
        dueRecorded("removeLayer", made(), x -> x.removeLayer(0, 1));
        dueRecorded("strip", made(), x -> x.strip(2));
        dueRecorded("settle", made(), x -> x.settle());
        dueRecorded("set", made(), x -> x.set(0, -5000));
        dueRecorded("run", made(), x -> x.run(50));
        dueRecorded("take", made(), x -> x.take(1));
        dueRecorded("take in place of one", made(), x -> x.take(0));
        dueRecorded("restore", made(), x -> x.restore(0));
        dueRecorded("load", made(), x -> x.load());
    }

    private static void idleActions() {
        dueRecorded("strip of none", new CrustBlocks(), x -> x.strip(0));
        dueRecorded("settle of none", new CrustBlocks(), x -> x.settle());
        dueRecorded("set to the same", new CrustBlocks(), x -> x.set(0, 2000));
        dueRecorded("run of nothing", new CrustBlocks(), x -> x.run(1));
        dueRecorded("take of nothing", new CrustBlocks(), x -> x.take(0));
        dueRecorded("load without items", new CrustBlocks(), x -> x.load());
        CrustBlocks taken = new CrustBlocks();
        taken.take(0);
        dueRecorded("restore of the same", taken, x -> x.restore(0));
    }

    private static void refusedActions() {
        CrustBlocks x = Checks.loaded("0:" + Checks.rocks(8, 1) + ";");
        x.addLayer(0, 0, 0, 9, 1);
        x.addLayer(1, 0, 0, 8, 1);
        x.removeLayer(1, 0);
        x.strip(3);
        x.set(0, 10000);
        x.set(5, 0);
        x.run(51);
        x.take(2);
        x.restore(0);
        x.restore(2);
        Checks.write(x, "x");
        x.load();
        Checks.is("states", x.count(12), 1);
        for (int n = 0; n < 20; n++) {
            x.run(50);
        }
        x.undo();
        x.run(50);
        x.undo();
        x.run(49);
        x.run(2);
        Checks.is("states behind a run that found no room", x.count(12), 5);
        Checks.is("undo", x.undo(), 4);
        Checks.is("steps", x.count(0), 950);
    }

    private static void noActions() {
        CrustBlocks x = Checks.standing(Checks.row(0, 2, 24, 3000));
        x.append(48);
        x.clearText();
        x.count(12);
        x.block(0, 0);
        x.layer(0, 0, 0);
        x.account(0);
        x.density(0, 0);
        x.pressure(0, 0);
        x.why(0);
        x.valley(0);
        x.stepsToBalance(0);
        x.bareTop(0);
        x.topIn(0, 100);
        x.uneven(0, 0);
        Checks.is("states", x.count(12), 1);
        x.undo();
        Checks.is("undo records nothing", x.count(12), 0);
        Checks.is("and once more", x.undo(), Checks.ILLEGAL);
    }

    private static void sixth() {
        CrustBlocks x = new CrustBlocks();
        for (int n = 1; n <= 6; n++) {
            x.set(0, n);
        }
        for (int n = 5; n >= 1; n--) {
            Checks.is("left", x.undo(), n - 1);
            Checks.is("the snow line", x.count(1), n);
        }
        Checks.is("the first one was dropped", x.undo(), Checks.ILLEGAL);
        Checks.is("the snow line stays", x.count(1), 1);
        CrustBlocks five = new CrustBlocks();
        for (int n = 1; n <= 5; n++) {
            five.set(0, n);
        }
        for (int n = 4; n >= 0; n--) {
            Checks.is("left of five", five.undo(), n);
        }
        Checks.is("none of five was dropped", five.count(1), 2000);
    }

    private static void manyTimes() {
        CrustBlocks x = new CrustBlocks();
        java.util.ArrayList<Integer> history = new java.util.ArrayList<>();
        int now = 2000;
        for (int n = 1; n <= 120; n++) {
            // By turns there are more actions and more undos, so that the history is full and empty.
            if (n / 20 % 2 == 0 ? n % 7 == 0 : n % 3 != 0) {
                int due = history.isEmpty() ? Checks.ILLEGAL : history.size() - 1;
                now = history.isEmpty() ? now : history.remove(history.size() - 1);
                Checks.is("undo, call " + n, x.undo(), due);
            } else {
                Checks.is("set, call " + n, x.set(0, n), now);
                history.add(now);
                if (history.size() > 5) {
                    history.remove(0);
                }
                now = n;
            }
            Checks.is("the snow line, call " + n, x.count(1), now);
            Checks.is("states, call " + n, x.count(12), history.size());
        }
    }

    private static void latest() {
        CrustBlocks x = new CrustBlocks();
        x.set(0, 1);
        x.set(0, 2);
        Checks.is("one is left", x.undo(), 1);
        Checks.is("the snow line", x.count(1), 1);
        x.set(0, 3);
        Checks.is("states", x.count(12), 2);
        Checks.is("one is left again", x.undo(), 1);
        Checks.is("the snow line again", x.count(1), 1);
        Checks.is("none is left", x.undo(), 0);
        Checks.is("the first one", x.count(1), 2000);
        Checks.is("empty", x.undo(), Checks.ILLEGAL);
    }
}

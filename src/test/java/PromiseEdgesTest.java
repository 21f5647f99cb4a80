/** Promises 1 to 25: a test of its own for each sentence and each range that names a boundary case. */
public final class PromiseEdgesTest {
    private static final int ICE = Checks.ICE;
    private static final int SEDIMENT = Checks.SEDIMENT;
    private static final int ROCK = Checks.ROCK;
    private static final int[] FAR = {Integer.MIN_VALUE, Integer.MAX_VALUE};

    public static void main(String[] args) {
        layers();
        stepsAndSnapshots();
        texts();
        looking();
        reasons();
        Checks.end();
    }

    private interface Call {
        int on(CrustBlocks x, int argument);
    }

    /** The last argument that is allowed and the first that is not, on both sides. */
    private static void dueRange(CrustBlocks x, int lowest, int highest, Call call) {
        Checks.is(lowest + " is allowed", call.on(x, lowest) == Checks.INVALID ? 1 : 0, 0);
        Checks.is(highest + " is allowed", call.on(x, highest) == Checks.INVALID ? 1 : 0, 0);
        Checks.is((lowest - 1) + "", call.on(x, lowest - 1), Checks.INVALID);
        Checks.is((highest + 1) + "", call.on(x, highest + 1), Checks.INVALID);
        for (int far : FAR) {
            Checks.is(far + "", call.on(x, far), Checks.INVALID);
        }
    }

    private static CrustBlocks some() {
        return Checks.loaded("0:i*10+s*20+r27*3000;1:s*5;8:i*7;9:r30*400+i*2;");
    }

    private static CrustBlocks full() {
        CrustBlocks x = new CrustBlocks();
        for (int block = 0; block < 10; block++) {
            for (int layer = 0; layer < 8; layer++) {
                x.addLayer(block, 0, layer % 3, layer % 3 == 0 ? 9 : layer % 3 == 1 ? 22 : 24 + block % 9, 5);
            }
        }
        return x;
    }

    private static void layers() {
        Checks.sentence("1: ten blocks without layers", PromiseEdgesTest::newBlocks);
        Checks.sentence("1: with an empty text", PromiseEdgesTest::newText);
        Checks.sentence("1: a new object has no history and no snapshot", PromiseEdgesTest::newHistory);
        Checks.sentence("2: block: 0 to 9", () -> dueRange(some(), 0, 9, (x, n) -> x.addLayer(n, 0, ICE, 9, 1)));
        Checks.sentence("2: layer: 0 to the number of its layers", () -> dueRange(some(), 0, 3, (x, n) -> {
            int answer = x.addLayer(0, n, ICE, 9, 1);
            if (answer >= 0) {
                x.undo();
            }
            return answer;
        }));
        Checks.sentence("2: layer: 0 to the number of its layers: of a block without layers",
            () -> dueRange(new CrustBlocks(), 0, 0, (x, n) -> {
                int answer = x.addLayer(5, n, ICE, 9, 1);
                if (answer >= 0) {
                    x.undo();
                }
                return answer;
            }));
        Checks.sentence("2: the number of the new layer", PromiseEdgesTest::numberOfTheNewLayer);
        Checks.sentence("2: kind: 0 to 2",
            () -> dueRange(some(), 0, 2, (x, n) -> x.addLayer(1, 0, n, n == 0 ? 9 : n == 1 ? 22 : 24, 1)));
        Checks.sentence("2: density: that of the kind (ice)",
            () -> dueRange(some(), 9, 9, (x, n) -> x.addLayer(1, 0, ICE, n, 1)));
        Checks.sentence("2: density: that of the kind (sediment)",
            () -> dueRange(some(), 22, 22, (x, n) -> x.addLayer(1, 0, SEDIMENT, n, 1)));
        Checks.sentence("2: density: for rock 24 to 32",
            () -> dueRange(some(), 24, 32, (x, n) -> x.addLayer(1, 0, ROCK, n, 1)));
        Checks.sentence("2: thickness: 1 to 9999", () -> dueRange(some(), 1, 9999, (x, n) -> x.addLayer(1, 0, ICE, 9, n)));
        Checks.sentence("2: Adds a layer; the base stays", PromiseEdgesTest::baseStaysBehindAddLayer);
        Checks.sentence("2: Returns the number of layers then", PromiseEdgesTest::numberOfLayersThen);
        Checks.sentence("2: CAPACITY_EXCEEDED if the block has 8 layers", PromiseEdgesTest::fullBlock);
        Checks.sentence("3: block: 0 to 9", () -> dueRange(full(), 0, 9, (x, n) -> x.removeLayer(n, 0)));
        Checks.sentence("3: layer: a layer of the block", PromiseEdgesTest::layerToRemove);
        Checks.sentence("3: Removes a layer; the base stays", PromiseEdgesTest::baseStaysBehindRemoveLayer);
        Checks.sentence("3: Returns its thickness", PromiseEdgesTest::thicknessOfTheRemoved);
        Checks.sentence("4: kind: 0 to 2", () -> dueRange(full(), 0, 2, (x, n) -> x.strip(n)));
        Checks.sentence("4: Removes all layers of a kind from all blocks", PromiseEdgesTest::allOfAKind);
        Checks.sentence("4: the bases stay", PromiseEdgesTest::basesStayBehindStrip);
        Checks.sentence("4: Returns the number of layers that were removed: none and all", PromiseEdgesTest::numberOfStripped);
        Checks.sentence("5: Makes the bases of all blocks their balances", PromiseEdgesTest::allBases);
        Checks.sentence("5: Returns the number of blocks whose base changed: none and all", PromiseEdgesTest::numberOfSettled);
    }

    private static void newBlocks() {
        CrustBlocks x = new CrustBlocks();
        for (int block = 0; block < 10; block++) {
            for (int what = 0; what <= 6; what++) {
                Checks.is("block " + block + ", " + what, x.block(block, what), 0);
            }
            Checks.is("layer of " + block, x.layer(block, 0, 0), Checks.NONE);
            Checks.is("density at 0", x.density(block, 0), 0);
            Checks.is("density below 0", x.density(block, -1), 33);
            Checks.is("pressure at 1", x.pressure(block, 1), 33);
            Checks.is("why", x.why(block), 1);
            Checks.is("valley", x.valley(block), Checks.NONE);
            Checks.is("steps to balance", x.stepsToBalance(block), 0);
            Checks.is("bare top", x.bareTop(block), 0);
            Checks.is("top in 100 steps", x.topIn(block, 100), 0);
        }
        int[] counts = {0, 2000, 100, 100, 50, 40, 0, 0, 0, 0, 0, 0, 0, 0};
        for (int what = 0; what < counts.length; what++) {
            Checks.is("count " + what, x.count(what), counts[what]);
        }
        for (int what = 0; what <= 7; what++) {
            Checks.is("account " + what, x.account(what), 0);
        }
        for (int what = 0; what <= 2; what++) {
            Checks.is("uneven " + what, x.uneven(0, what), 0);
        }
    }

    private static void newText() {
        CrustBlocks x = new CrustBlocks();
        Checks.is("length", x.count(13), 0);
        Checks.is("clearText", x.clearText(), 0);
        Checks.is("load", x.load(), 0);
        Checks.is("the first character", new CrustBlocks().append(48), 1);
    }

    private static void newHistory() {
        CrustBlocks x = new CrustBlocks();
        Checks.is("undo", x.undo(), Checks.ILLEGAL);
        Checks.is("restore 0", x.restore(0), Checks.ILLEGAL);
        Checks.is("restore 1", x.restore(1), Checks.ILLEGAL);
        CrustBlocks other = new CrustBlocks();
        x.addLayer(0, 0, ICE, 9, 1);
        Checks.is("two objects are two", other.count(6) + other.count(12), 0);
    }

    private static void numberOfTheNewLayer() {
        for (int layer = 0; layer <= 3; layer++) {
            CrustBlocks x = some();
            x.addLayer(0, layer, ROCK, 25, 77);
            for (int n = 0; n <= 3; n++) {
                int[] thicknesses = {10, 20, 3000};
                int due = n == layer ? 77 : thicknesses[n < layer ? n : n - 1];
                Checks.is("layer " + n + " behind one at " + layer, x.layer(0, n, 2), due);
            }
        }
    }

    private static void baseStaysBehindAddLayer() {
        CrustBlocks x = some();
        int base = x.block(9, 3);
        x.addLayer(9, 0, ROCK, 32, 9999);
        Checks.is("base", x.block(9, 3), base);
        Checks.is("top", x.block(9, 4), 402 + 9999 - base);
    }

    private static void numberOfLayersThen() {
        CrustBlocks x = new CrustBlocks();
        for (int n = 1; n <= 8; n++) {
            Checks.is("layer " + n, x.addLayer(9, n - 1, ICE, 9, 1), n);
        }
        Checks.is("another block has its own", x.addLayer(8, 0, ICE, 9, 1), 1);
    }

    private static void fullBlock() {
        CrustBlocks x = new CrustBlocks();
        for (int n = 1; n <= 7; n++) {
            x.addLayer(4, 0, ICE, 9, n);
        }
        Checks.is("seven layers", x.addLayer(4, 0, ICE, 9, 8), 8);
        for (int layer = 0; layer <= 8; layer++) {
            Checks.is("eight layers, at " + layer, x.addLayer(4, layer, ICE, 9, 9), Checks.FULL);
        }
        Checks.is("a neighbor has room", x.addLayer(3, 0, ICE, 9, 9), 1);
        x.removeLayer(4, 5);
        Checks.is("room again", x.addLayer(4, 7, ICE, 9, 9), 8);
        Checks.has(x, 4, "i*8+i*7+i*6+i*5+i*4+i*2+i*1+i*9");
    }

    private static void layerToRemove() {
        CrustBlocks x = some();
        Checks.is("-1", x.removeLayer(0, -1), Checks.INVALID);
        Checks.is("3 of 3", x.removeLayer(0, 3), Checks.INVALID);
        Checks.is("2 of 3", x.removeLayer(0, 2), 3000);
        Checks.is("2 of 2", x.removeLayer(0, 2), Checks.INVALID);
        Checks.is("0 of 2", x.removeLayer(0, 0), 10);
        Checks.is("0 of 1", x.removeLayer(0, 0), 20);
        Checks.is("0 of none", x.removeLayer(0, 0), Checks.INVALID);
        CrustBlocks full = Checks.loaded("0:i*1+i*2+i*3+i*4+i*5+i*6+i*7+i*8;");
        Checks.is("8 of 8", full.removeLayer(0, 8), Checks.INVALID);
        Checks.is("7 of 8", full.removeLayer(0, 7), 8);
        Checks.is("0 of 7", full.removeLayer(0, 0), 1);
        Checks.has(full, 0, "i*2+i*3+i*4+i*5+i*6+i*7");
        for (int far : FAR) {
            Checks.is(far + "", full.removeLayer(0, far), Checks.INVALID);
        }
    }

    private static void baseStaysBehindRemoveLayer() {
        CrustBlocks x = Checks.loaded("0:r32*3300;");
        x.removeLayer(0, 0);
        Checks.is("base", x.block(0, 3), 3200);
        Checks.is("balance", x.block(0, 2), 0);
    }

    private static void thicknessOfTheRemoved() {
        CrustBlocks x = Checks.standing(Checks.row(0, ICE, 9, 1), Checks.row(0, ICE, 9, 9999));
        Checks.is("the thickest", x.removeLayer(0, 1), 9999);
        Checks.is("the thinnest", x.removeLayer(0, 0), 1);
    }

    private static void allOfAKind() {
        for (int kind = 0; kind <= 2; kind++) {
            CrustBlocks x = full();
            x.strip(kind);
            for (int block = 0; block < 10; block++) {
                Checks.is("layers of " + block, x.block(block, 0), kind == 2 ? 6 : 5);
                for (int layer = 0; layer < x.block(block, 0); layer++) {
                    Checks.is("kind " + kind + " in " + block, x.layer(block, layer, 0) == kind ? 1 : 0, 0);
                }
            }
        }
        CrustBlocks same = Checks.loaded("5:i*1+i*2+s*3+i*4+i*5;");
        same.strip(ICE);
        Checks.has(same, 5, "s*3");
    }

    private static void basesStayBehindStrip() {
        CrustBlocks x = Checks.loaded("0:r32*3300;9:s*3300;");
        x.strip(ROCK);
        x.strip(SEDIMENT);
        Checks.is("base of 0", x.block(0, 3), 3200);
        Checks.is("base of 9", x.block(9, 3), 2200);
    }

    private static void numberOfStripped() {
        Checks.is("of a new object", new CrustBlocks().strip(ICE), 0);
        CrustBlocks x = full();
        Checks.is("ice", x.strip(ICE), 30);
        Checks.is("ice again", x.strip(ICE), 0);
        Checks.is("sediment", x.strip(SEDIMENT), 30);
        Checks.is("rock", x.strip(ROCK), 20);
        Checks.is("layers", x.count(6), 0);
        CrustBlocks all = new CrustBlocks();
        for (int n = 0; n < 80; n++) {
            all.addLayer(n / 8, 0, ICE, 9, 1);
        }
        Checks.is("all 80", all.strip(ICE), 80);
    }

    private static void allBases() {
        CrustBlocks x = full();
        x.settle();
        for (int block = 0; block < 10; block++) {
            Checks.is("base of " + block, x.block(block, 3), x.block(block, 1) / 33);
        }
        x.strip(ICE);
        x.strip(SEDIMENT);
        x.strip(ROCK);
        x.settle();
        for (int block = 0; block < 10; block++) {
            Checks.is("base of " + block + " without layers", x.block(block, 3), 0);
        }
    }

    private static void numberOfSettled() {
        Checks.is("of a new object", new CrustBlocks().settle(), 0);
        CrustBlocks x = full();
        Checks.is("all", x.settle(), 10);
        Checks.is("none", x.settle(), 0);
        CrustBlocks y = Checks.standing(Checks.row(0, ICE, 9, 3), Checks.row(9, ICE, 9, 4));
        Checks.is("a weight of 27 has the balance 0, one of 36 has 1", y.settle(), 1);
    }

    private static void stepsAndSnapshots() {
        Checks.sentence("6: what: 0 to 4", () -> dueRange(some(), 0, 4, (x, n) -> x.set(n, 50)));
        Checks.sentence("6: value: in its range (0)", () -> dueRange(some(), -5000, 9999, (x, n) -> x.set(0, n)));
        Checks.sentence("6: value: in its range (1)", () -> dueRange(some(), 0, 500, (x, n) -> x.set(1, n)));
        Checks.sentence("6: value: in its range (2)", () -> dueRange(some(), 0, 500, (x, n) -> x.set(2, n)));
        Checks.sentence("6: value: in its range (3)", () -> dueRange(some(), 0, 200, (x, n) -> x.set(3, n)));
        Checks.sentence("6: value: in its range (4)", () -> dueRange(some(), 1, 100, (x, n) -> x.set(4, n)));
        Checks.sentence("6: Sets a setting, and no other", PromiseEdgesTest::oneSetting);
        Checks.sentence("6: Returns the previous value", PromiseEdgesTest::previousValue);
        Checks.sentence("7: steps: 1 to 50", () -> dueRange(some(), 1, 50, (x, n) -> x.run(n)));
        Checks.sentence("7: Makes steps", PromiseEdgesTest::asManySteps);
        Checks.sentence("7: This is one action", PromiseEdgesTest::runIsOneAction);
        Checks.sentence("7: Returns the number of steps so far", PromiseEdgesTest::stepsSoFar);
        Checks.sentence("7: CAPACITY_EXCEEDED if there would be more than 1000", PromiseEdgesTest::thousandSteps);
        Checks.sentence("8: place: 0 or 1", () -> dueRange(some(), 0, 1, (x, n) -> x.take(n)));
        Checks.sentence("8: in place of one that is there", PromiseEdgesTest::inPlaceOfOne);
        Checks.sentence("8: Returns the number of layers of all blocks: none and 80", PromiseEdgesTest::layersTaken);
        Checks.sentence("9: place: 0 or 1", () -> {
            CrustBlocks y = some();
            y.take(0);
            y.take(1);
            dueRange(y, 0, 1, (x, n) -> x.restore(n));
        });
        Checks.sentence("9: Restores a snapshot, which stays", PromiseEdgesTest::snapshotStays);
        Checks.sentence("9: Returns the number of layers of all blocks then: none and 80", PromiseEdgesTest::layersRestored);
        Checks.sentence("9: ILLEGAL_STATE if the place is empty", PromiseEdgesTest::emptyPlace);
        Checks.sentence("10: Returns the number of states that are left in the history", PromiseEdgesTest::statesLeft);
        Checks.sentence("10: ILLEGAL_STATE if it is empty", PromiseEdgesTest::emptyHistory);
    }

    private static void oneSetting() {
        int[] first = {2000, 100, 100, 50, 40};
        for (int what = 0; what <= 4; what++) {
            CrustBlocks x = new CrustBlocks();
            x.set(what, 77);
            for (int other = 0; other <= 4; other++) {
                Checks.is(other + " behind set of " + what, x.count(other + 1), other == what ? 77 : first[other]);
            }
        }
    }

    private static void previousValue() {
        int[] first = {2000, 100, 100, 50, 40};
        for (int what = 0; what <= 4; what++) {
            CrustBlocks x = new CrustBlocks();
            Checks.is("at first", x.set(what, 1), first[what]);
            Checks.is("then", x.set(what, 2), 1);
            Checks.is("the same", x.set(what, 2), 2);
            x.set(what, -6000);
            Checks.is("behind a refused one", x.set(what, 3), 2);
            x.undo();
            Checks.is("behind undo", x.set(what, 3), 2);
        }
        CrustBlocks low = new CrustBlocks();
        low.set(0, -5000);
        Checks.is("a negative one", low.set(0, 0), -5000);
    }

    private static void asManySteps() {
        for (int steps : new int[] {1, 2, 49, 50}) {
            CrustBlocks x = Checks.standing(Checks.row(0, ICE, 9, 9999));
            x.set(0, -5000);
            x.set(1, 3);
            x.run(steps);
            Checks.has(x, 0, "i*" + (9999 + 3 * steps));
        }
        CrustBlocks once = some();
        CrustBlocks often = some();
        once.run(50);
        for (int n = 0; n < 50; n++) {
            often.run(1);
        }
        for (int block = 0; block < 10; block++) {
            Checks.has(once, block, Checks.layers(often, block));
            Checks.is("base of " + block, once.block(block, 3), often.block(block, 3));
        }
    }

    private static void runIsOneAction() {
        CrustBlocks x = Checks.standing(Checks.row(0, ROCK, 24, 3000));
        x.run(50);
        Checks.is("states", x.count(12), 2);
        x.undo();
        Checks.is("steps", x.count(0), 0);
        Checks.has(x, 0, "r24*3000");
    }

    private static void stepsSoFar() {
        CrustBlocks x = new CrustBlocks();
        Checks.is("1", x.run(1), 1);
        Checks.is("50", x.run(50), 51);
        x.run(51);
        Checks.is("behind a refused one", x.run(1), 52);
        x.undo();
        Checks.is("behind undo", x.run(2), 53);
        x.take(0);
        x.run(10);
        x.restore(0);
        Checks.is("behind restore", x.run(1), 64);
    }

    private static void thousandSteps() {
        CrustBlocks x = new CrustBlocks();
        for (int n = 1; n <= 19; n++) {
            x.run(50);
        }
        Checks.is("950 and 49", x.run(49), 999);
        Checks.is("999 and 2", x.run(2), Checks.FULL);
        Checks.is("999 and 50", x.run(50), Checks.FULL);
        Checks.is("999 and 1", x.run(1), 1000);
        Checks.is("1000 and 1", x.run(1), Checks.FULL);
        Checks.is("1000 and 50", x.run(50), Checks.FULL);
        Checks.is("steps", x.count(0), 1000);
        CrustBlocks y = new CrustBlocks();
        for (int n = 1; n <= 20; n++) {
            Checks.is("fifty each", y.run(50), 50 * n);
        }
        y.undo();
        Checks.is("room again", y.run(50), 1000);
    }

    private static void inPlaceOfOne() {
        CrustBlocks x = some();
        x.take(0);
        x.take(1);
        x.strip(ICE);
        x.take(0);
        Checks.is("places", x.count(11), 2);
        Checks.is("the other", x.restore(1), 7);
        Checks.is("the new one", x.restore(0), 4);
    }

    private static void layersTaken() {
        Checks.is("none", new CrustBlocks().take(0), 0);
        Checks.is("80", full().take(1), 80);
        Checks.is("some", some().take(1), 7);
    }

    private static void snapshotStays() {
        CrustBlocks x = some();
        x.take(1);
        for (int n = 0; n < 3; n++) {
            x.strip(n);
            Checks.is("restore " + n, x.restore(1), 7);
            Checks.is("places", x.count(11), 1);
            Checks.has(x, 0, "i*10+s*20+r27*3000");
        }
        x.run(50);
        x.removeLayer(0, 0);
        x.restore(1);
        Checks.has(x, 0, "i*10+s*20+r27*3000");
        Checks.has(x, 9, "r30*400+i*2");
    }

    private static void layersRestored() {
        CrustBlocks x = full();
        x.take(0);
        for (int kind = 0; kind <= 2; kind++) {
            x.strip(kind);
        }
        x.take(1);
        Checks.is("80", x.restore(0), 80);
        Checks.is("none", x.restore(1), 0);
        Checks.is("80 again", x.restore(0), 80);
    }

    private static void emptyPlace() {
        for (int place = 0; place <= 1; place++) {
            CrustBlocks x = some();
            Checks.is("empty", x.restore(place), Checks.ILLEGAL);
            x.take(1 - place);
            Checks.is("the other one is not", x.restore(place), Checks.ILLEGAL);
            x.take(place);
            Checks.is("taken", x.restore(place), 7);
            x.undo();
            x.undo();
            Checks.is("empty again", x.restore(place), Checks.ILLEGAL);
        }
    }

    private static void statesLeft() {
        CrustBlocks x = new CrustBlocks();
        for (int n = 0; n < 5; n++) {
            x.settle();
        }
        for (int left = 4; left >= 0; left--) {
            Checks.is("left", x.undo(), left);
        }
    }

    private static void emptyHistory() {
        CrustBlocks x = new CrustBlocks();
        Checks.is("of a new object", x.undo(), Checks.ILLEGAL);
        x.settle();
        Checks.is("one state", x.undo(), 0);
        Checks.is("none", x.undo(), Checks.ILLEGAL);
        Checks.is("none still", x.undo(), Checks.ILLEGAL);
        x.settle();
        Checks.is("one state again", x.undo(), 0);
    }

    private static void texts() {
        Checks.sentence("11: character code, 1 to 255", () -> dueRange(new CrustBlocks(), 1, 255, (x, n) -> x.append(n)));
        Checks.sentence("11: Returns the new length of the text", PromiseEdgesTest::newLength);
        Checks.sentence("11: CAPACITY_EXCEEDED if the text already has 140 characters", PromiseEdgesTest::fullText);
        Checks.sentence("12: Makes the text empty", PromiseEdgesTest::clearing);
        Checks.sentence("12: Returns the previous length of the text: 0 and 140", PromiseEdgesTest::previousLength);
        Checks.sentence("13: Reads the text. The text becomes empty", PromiseEdgesTest::emptyBehindLoad);
        Checks.sentence("13: This is one action, also without items", PromiseEdgesTest::loadIsOneAction);
        Checks.sentence("13: Returns the number of items", PromiseEdgesTest::numberOfItems);
        Checks.sentence("13: -200000000 minus the error position", PromiseEdgesTest::errorPositions);
        Checks.sentence("13: (then nothing changes, and the text is kept)", PromiseEdgesTest::wrongText);
    }

    private static void newLength() {
        CrustBlocks x = new CrustBlocks();
        Checks.is("first", x.append(1), 1);
        Checks.is("refused", x.append(0), Checks.INVALID);
        Checks.is("second", x.append(255), 2);
        x.clearText();
        Checks.is("behind clearText", x.append(32), 1);
        x.clearText();
        x.append(32);
        x.load();
        Checks.is("behind load", x.append(32), 1);
    }

    private static void fullText() {
        CrustBlocks x = new CrustBlocks();
        for (int n = 1; n <= 140; n++) {
            Checks.is("character " + n, x.append(32), n);
        }
        Checks.is("one more", x.append(32), Checks.FULL);
        Checks.is("one more, the lowest", x.append(1), Checks.FULL);
        Checks.is("one more, the highest", x.append(255), Checks.FULL);
        x.clearText();
        Checks.is("room again", x.append(32), 1);
        for (int n = 2; n <= 140; n++) {
            x.append(32);
        }
        x.load();
        Checks.is("room behind load", x.append(32), 1);
    }

    private static void clearing() {
        CrustBlocks x = new CrustBlocks();
        Checks.write(x, "0:i*1;");
        x.clearText();
        Checks.is("length", x.count(13), 0);
        Checks.is("no items", x.load(), 0);
        Checks.write(x, "0:");
        x.clearText();
        Checks.write(x, "1:;");
        Checks.is("the new text alone", x.load(), 1);
    }

    private static void previousLength() {
        CrustBlocks x = new CrustBlocks();
        Checks.is("0", x.clearText(), 0);
        x.append(32);
        Checks.is("1", x.clearText(), 1);
        for (int n = 1; n <= 141; n++) {
            x.append(32);
        }
        Checks.is("140", x.clearText(), 140);
        Checks.is("0 again", x.clearText(), 0);
    }

    private static void emptyBehindLoad() {
        CrustBlocks x = new CrustBlocks();
        Checks.write(x, "0:i*1;");
        Checks.is("load", x.load(), 1);
        Checks.is("length", x.count(13), 0);
        x.strip(ICE);
        Checks.is("load again", x.load(), 0);
        Checks.has(x, 0, "");
    }

    private static void loadIsOneAction() {
        CrustBlocks x = new CrustBlocks();
        x.load();
        Checks.is("without items", x.count(12), 1);
        Checks.write(x, "0:i*1;1:i*2;2:i*3;");
        x.load();
        Checks.is("with three items", x.count(12), 2);
        Checks.is("undo", x.undo(), 1);
        Checks.is("all three are undone", x.count(6), 0);
    }

    private static void numberOfItems() {
        String[] texts = {"", "   ", "0:;", "0:i*1;", "0:i*1;0:;0:i*1;", "0:;1:;2:;3:;4:;5:;6:;7:;8:;9:;"};
        int[] due = {0, 0, 1, 1, 3, 10};
        for (int n = 0; n < texts.length; n++) {
            CrustBlocks x = new CrustBlocks();
            Checks.write(x, texts[n]);
            Checks.is(texts[n], x.load(), due[n]);
        }
    }

    private static void errorPositions() {
        for (int position = 0; position <= 139; position++) {
            CrustBlocks x = new CrustBlocks();
            for (int n = 0; n < position; n++) {
                x.append(32);
            }
            x.append(255);
            Checks.is("position " + position, x.load(), -200000000 - position);
        }
        CrustBlocks x = new CrustBlocks();
        for (int n = 0; n < 139; n++) {
            x.append(32);
        }
        x.append(48);
        Checks.is("position 140", x.load(), -200000140);
    }

    private static void wrongText() {
        CrustBlocks x = some();
        String before = Checks.seen(x);
        Checks.write(x, "0:;1:r32*9999;2:i*1;x");
        for (int n = 0; n < 2; n++) {
            Checks.is("error", x.load(), Checks.TEXT_ERROR - 20);
            Checks.is("the text is kept", x.count(13), 21);
            Checks.is("nothing was recorded", x.count(12), 1);
            Checks.dueSame("13: nothing changes", Checks.seen(x), before);
        }
        Checks.is("the text goes on", x.append(32), 22);
    }

    private static void looking() {
        Checks.sentence("14: what: 0 to 13", () -> dueRange(some(), 0, 13, (x, n) -> x.count(n)));
        Checks.sentence("14: 6 the number of layers, 7 of blocks with layers: none and all", PromiseEdgesTest::countsOfLayers);
        Checks.sentence("14: 8 of blocks with ice as their layer 0", PromiseEdgesTest::countOfIce);
        Checks.sentence("14: 9 of blocks whose base is not their balance", PromiseEdgesTest::countOutOfBalance);
        Checks.sentence("14: 10 the block with the highest top (of several the smallest one)", PromiseEdgesTest::highestTop);
        Checks.sentence("14: 11 the places, 12 the states, 13 the length of the text", PromiseEdgesTest::countsOfRoom);
        Checks.sentence("15: block: 0 to 9", () -> dueRange(some(), 0, 9, (x, n) -> x.block(n, 0)));
        Checks.sentence("15: what: 0 to 6", () -> dueRange(some(), 0, 6, (x, n) -> x.block(0, n)));
        Checks.sentence("15: 6 the weight of its ice", PromiseEdgesTest::weightOfIce);
        Checks.sentence("16: block: 0 to 9", () -> dueRange(some(), 0, 9, (x, n) -> x.layer(n, 0, 0)));
        Checks.sentence("16: what: 0 to 3", () -> dueRange(some(), 0, 3, (x, n) -> x.layer(0, 0, n)));
        Checks.sentence("16: layer: INVALID_ARGUMENT if it is negative", PromiseEdgesTest::negativeLayer);
        Checks.sentence("16: NONE if there are not so many", PromiseEdgesTest::notSoManyLayers);
        Checks.sentence("16: 3 the height of its upper side", PromiseEdgesTest::upperSides);
        Checks.sentence("17: what: 0 to 7", () -> dueRange(some(), 0, 7, (x, n) -> x.account(n)));
        Checks.sentence("17: 7 for the sum of the weights of all blocks: none and the greatest",
            PromiseEdgesTest::sumOfWeights);
        Checks.sentence("18: block: 0 to 9", () -> dueRange(some(), 0, 9, (x, n) -> x.density(n, 0)));
        Checks.sentence("18: height: -99999 to 99999", () -> dueRange(some(), -99999, 99999, (x, n) -> x.density(0, n)));
        Checks.sentence("18: the layer that lies from this height to height + 1", PromiseEdgesTest::densityOfLayers);
        Checks.sentence("18: 33 if that is below the base", PromiseEdgesTest::densityBelowTheBase);
        Checks.sentence("18: 0 if it is at the top or above", PromiseEdgesTest::densityAboveTheTop);
        Checks.sentence("18, 19: heights and depths that lie in a deep block", PromiseEdgesTest::deepLayers);
        Checks.sentence("19: block: 0 to 9", () -> dueRange(some(), 0, 9, (x, n) -> x.pressure(n, 0)));
        Checks.sentence("19: depth: 0 to 99999", () -> dueRange(some(), 0, 99999, (x, n) -> x.pressure(0, n)));
    }

    private static void countsOfLayers() {
        Checks.is("no layers", new CrustBlocks().count(6), 0);
        Checks.is("no blocks", new CrustBlocks().count(7), 0);
        Checks.is("all layers", full().count(6), 80);
        Checks.is("all blocks", full().count(7), 10);
        CrustBlocks ends = Checks.standing(Checks.row(0, ICE, 9, 1), Checks.row(9, ICE, 9, 1));
        Checks.is("layers of the first and the last", ends.count(6), 2);
        Checks.is("the first and the last", ends.count(7), 2);
    }

    private static void countOfIce() {
        Checks.is("no layers", new CrustBlocks().count(8), 0);
        CrustBlocks x = Checks.standing(Checks.row(0, ICE, 9, 1), Checks.row(4, SEDIMENT, 22, 1),
            Checks.row(4, ICE, 9, 1), Checks.row(9, ICE, 9, 1));
        Checks.is("not ice under sediment", x.count(8), 2);
        for (int block = 1; block <= 8; block++) {
            x.addLayer(block, 0, ICE, 9, 1);
        }
        Checks.is("all", x.count(8), 10);
    }

    private static void countOutOfBalance() {
        Checks.is("no layers", new CrustBlocks().count(9), 0);
        CrustBlocks x = new CrustBlocks();
        for (int block = 0; block < 10; block++) {
            x.addLayer(block, 0, ICE, 9, 3);
        }
        Checks.is("a balance of 0", x.count(9), 0);
        for (int block = 0; block < 10; block++) {
            x.addLayer(block, 0, ICE, 9, 1);
        }
        Checks.is("a balance of 1", x.count(9), 10);
        CrustBlocks y = Checks.loaded("3:r32*330;");
        Checks.is("in balance", y.count(9), 0);
        y.strip(ROCK);
        Checks.is("a base without layers", y.count(9), 1);
    }

    private static void highestTop() {
        Checks.is("all alike", new CrustBlocks().count(10), 0);
        for (int block = 0; block < 10; block++) {
            Checks.is("a single one", Checks.standing(Checks.row(block, ICE, 9, 1)).count(10), block);
        }
        CrustBlocks two = Checks.standing(Checks.row(8, ICE, 9, 5), Checks.row(9, SEDIMENT, 22, 5));
        Checks.is("two that are alike", two.count(10), 8);
        two.addLayer(9, 0, ICE, 9, 1);
        Checks.is("higher by 1", two.count(10), 9);
        CrustBlocks low = Checks.loaded("0:s*3;1:s*3;2:s*3;3:s*3;4:s*3;5:s*3;6:s*3;7:s*3;8:s*3;9:s*3;");
        low.strip(SEDIMENT);
        Checks.is("all below 0 and alike", low.count(10), 0);
        low.addLayer(6, 0, ICE, 9, 1);
        Checks.is("the highest below 0", low.count(10), 6);
    }

    private static void countsOfRoom() {
        CrustBlocks x = new CrustBlocks();
        Checks.is("no places", x.count(11), 0);
        x.take(1);
        Checks.is("one place", x.count(11), 1);
        x.take(1);
        Checks.is("the same place", x.count(11), 1);
        x.take(0);
        Checks.is("both places", x.count(11), 2);
        Checks.is("states", x.count(12), 3);
        x.undo();
        Checks.is("one place again", x.count(11), 1);
        Checks.is("states again", x.count(12), 2);
        for (int n = 0; n < 141; n++) {
            x.append(32);
        }
        Checks.is("length", x.count(13), 140);
    }

    private static void weightOfIce() {
        CrustBlocks x = Checks.standing(Checks.row(0, ICE, 9, 10), Checks.row(0, ROCK, 24, 100),
            Checks.row(0, ICE, 9, 1), Checks.row(1, ROCK, 24, 1));
        Checks.is("ice on top and below", x.block(0, 6), 99);
        Checks.is("no ice", x.block(1, 6), 0);
        Checks.is("no layers", x.block(2, 6), 0);
        Checks.is("ice alone", Checks.standing(Checks.row(9, ICE, 9, 9999)).block(9, 6), 9 * 9999);
    }

    private static void negativeLayer() {
        for (int what = 0; what <= 3; what++) {
            Checks.is("-1", some().layer(0, -1, what), Checks.INVALID);
            Checks.is("far", some().layer(0, FAR[0], what), Checks.INVALID);
            Checks.is("-1 without layers", some().layer(5, -1, what), Checks.INVALID);
            Checks.is("0", some().layer(0, 0, what) >= 0 ? 1 : 0, 1);
        }
    }

    private static void notSoManyLayers() {
        for (int what = 0; what <= 3; what++) {
            Checks.is("2 of 3", some().layer(0, 2, what) != Checks.NONE ? 1 : 0, 1);
            Checks.is("3 of 3", some().layer(0, 3, what), Checks.NONE);
            Checks.is("0 of none", some().layer(5, 0, what), Checks.NONE);
            Checks.is("7 of 8", full().layer(0, 7, what) != Checks.NONE ? 1 : 0, 1);
            Checks.is("8 of 8", full().layer(0, 8, what), Checks.NONE);
            Checks.is("far", full().layer(0, FAR[1], what), Checks.NONE);
        }
    }

    private static void upperSides() {
        CrustBlocks x = Checks.standing(Checks.row(0, ICE, 9, 1), Checks.row(0, SEDIMENT, 22, 2), Checks.row(0, ROCK, 24, 3));
        int[] due = {6, 5, 3};
        for (int layer = 0; layer < 3; layer++) {
            Checks.is("of " + layer, x.layer(0, layer, 3), due[layer]);
        }
        x.settle();
        for (int layer = 0; layer < 3; layer++) {
            Checks.is("of " + layer + " with the base 3", x.layer(0, layer, 3), due[layer] - 3);
        }
    }

    private static void sumOfWeights() {
        Checks.is("none", new CrustBlocks().account(7), 0);
        CrustBlocks x = new CrustBlocks();
        for (int n = 0; n < 80; n++) {
            x.addLayer(n / 8, 0, ROCK, 32, 9999);
        }
        Checks.is("the greatest", x.account(7), 80 * 32 * 9999);
        Checks.is("added", x.account(0), 80 * 32 * 9999);
    }

    private static void densityOfLayers() {
        // The base is 82, the top 38: ice from 28 to 38, sediment from 18, rock from -82.
        CrustBlocks x = Checks.loaded("0:i*10+s*10+r24*100;");
        int[][] due = {{37, 9}, {28, 9}, {27, 22}, {18, 22}, {17, 24}, {0, 24}, {-1, 24}, {-82, 24}};
        for (int[] d : due) {
            Checks.is("at " + d[0], x.density(0, d[0]), d[1]);
        }
        CrustBlocks thin = Checks.standing(Checks.row(0, ICE, 9, 1), Checks.row(0, SEDIMENT, 22, 1),
            Checks.row(0, ROCK, 32, 1));
        Checks.is("thin ice", thin.density(0, 2), 9);
        Checks.is("thin sediment", thin.density(0, 1), 22);
        Checks.is("thin rock", thin.density(0, 0), 32);
    }

    private static void densityBelowTheBase() {
        CrustBlocks x = Checks.loaded("0:i*10+s*10+r24*100;");
        Checks.is("at the base", x.density(0, -82), 24);
        Checks.is("below the base by 1", x.density(0, -83), 33);
        Checks.is("the lowest", x.density(0, -99999), 33);
        Checks.is("the base 0", new CrustBlocks().density(0, -1), 33);
        x.strip(ICE);
        x.strip(SEDIMENT);
        x.strip(ROCK);
        Checks.is("without layers", x.density(0, -83), 33);
        Checks.is("without layers, at the base", x.density(0, -82), 0);
    }

    private static void densityAboveTheTop() {
        CrustBlocks x = Checks.loaded("0:i*10+s*10+r24*100;");
        Checks.is("below the top by 1", x.density(0, 37), 9);
        Checks.is("at the top", x.density(0, 38), 0);
        Checks.is("the highest", x.density(0, 99999), 0);
        Checks.is("a top at 0", new CrustBlocks().density(0, 0), 0);
        CrustBlocks low = Checks.loaded("0:r32*3300;");
        low.strip(ROCK);
        low.addLayer(0, 0, ICE, 9, 10);
        Checks.is("below a top below 0", low.density(0, -3191), 9);
        Checks.is("at a top below 0", low.density(0, -3190), 0);
        CrustBlocks tall = iceberg(1, 100);
        Checks.is("a top above all heights", tall.block(0, 4) > 99999 ? 1 : 0, 1);
        Checks.is("its density", tall.density(0, 99999), 9);
    }

    private static void deepLayers() {
        CrustBlocks x = iceberg(100, 1000);
        int base = x.block(0, 3);
        Checks.is("a base below all heights", base, (8 * 9999 + 1000 * 500) * 9 / 33);
        Checks.is("density", x.density(0, -99999), 9);
        Checks.is("pressure", x.pressure(0, 99999), (x.block(0, 4) + 99999) * 9);
    }

    /** Ice of eight layers that has grown by 500 in each step. */
    private static CrustBlocks iceberg(int rate, int steps) {
        CrustBlocks x = new CrustBlocks();
        for (int n = 0; n < 8; n++) {
            x.addLayer(0, 0, ICE, 9, 9999);
        }
        x.set(0, -5000);
        x.set(1, 500);
        x.set(4, rate);
        for (int made = 0; made < steps; made += 50) {
            x.run(50);
        }
        return x;
    }

    private static void reasons() {
        Checks.sentence("20: block: 0 to 9", () -> dueRange(some(), 0, 9, (x, n) -> x.why(n)));
        Checks.sentence("20: the first of these: 1 it has no layers", PromiseEdgesTest::reasonNoLayers);
        Checks.sentence("20: the first of these: 2 ice lies on top", PromiseEdgesTest::reasonIce);
        Checks.sentence("20: the first of these: 3 no neighbor has a lower top", PromiseEdgesTest::reasonNoValley);
        Checks.sentence("20: 4 x would be 0", PromiseEdgesTest::reasonNothing);
        Checks.sentence("20: if it was made without the ice of that step", PromiseEdgesTest::withoutIceOfTheStep);
        Checks.sentence("21: block: 0 to 9", () -> dueRange(some(), 0, 9, (x, n) -> x.valley(n)));
        Checks.sentence("21: NONE if no neighbor has a lower top", PromiseEdgesTest::noValley);
        Checks.sentence("22: block: 0 to 9", () -> dueRange(some(), 0, 9, (x, n) -> x.stepsToBalance(n)));
        Checks.sentence("22: Returns the number of steps, 0 if it is in balance", PromiseEdgesTest::stepsToBalance);
        Checks.sentence("22: if steps consisted of floating alone", PromiseEdgesTest::floatingAlone);
        Checks.sentence("23: block: 0 to 9", () -> dueRange(some(), 0, 9, (x, n) -> x.bareTop(n)));
        Checks.sentence("23: without its ice, in balance", PromiseEdgesTest::bareTops);
        Checks.sentence("24: block: 0 to 9", () -> dueRange(some(), 0, 9, (x, n) -> x.topIn(n, 1)));
        Checks.sentence("24: steps: 0 to 100", () -> dueRange(some(), 0, 100, (x, n) -> x.topIn(0, n)));
        Checks.sentence("24: the top behind some steps: 0, 1 and 100", PromiseEdgesTest::topsAhead);
        Checks.sentence("24: (the limit of 1000 steps does not matter)", PromiseEdgesTest::behindTheLimit);
        Checks.sentence("25: depth: 0 to 99999", () -> dueRange(some(), 0, 99999, (x, n) -> x.uneven(n, 0)));
        Checks.sentence("25: what: 0 to 2", () -> dueRange(some(), 0, 2, (x, n) -> x.uneven(0, n)));
        Checks.sentence("25: 0 the difference: of none", PromiseEdgesTest::noDifference);
        Checks.sentence("25: of several each time the smallest block", PromiseEdgesTest::smallestBlock);
        Checks.sentence("25: the two blocks whose pressures differ most: the first and the last", PromiseEdgesTest::differMost);
    }

    private static void reasonNoLayers() {
        CrustBlocks x = Checks.loaded("0:s*330;1:s*3300;");
        x.strip(SEDIMENT);
        Checks.is("though a neighbor is lower", x.why(0), 1);
        Checks.is("and where none is", x.why(1), 1);
    }

    private static void reasonIce() {
        CrustBlocks x = Checks.standing(Checks.row(0, ICE, 9, 5), Checks.row(1, ICE, 9, 9));
        Checks.is("though no neighbor is lower", x.why(0), 2);
        Checks.is("and where one is", x.why(1), 2);
        CrustBlocks y = Checks.standing(Checks.row(0, SEDIMENT, 22, 1000), Checks.row(0, ICE, 9, 5));
        Checks.is("not if it lies below", y.why(0), 0);
    }

    private static void reasonNoValley() {
        CrustBlocks x = Checks.standing(Checks.row(0, SEDIMENT, 22, 5), Checks.row(1, SEDIMENT, 22, 5),
            Checks.row(2, SEDIMENT, 22, 5));
        x.set(3, 0);
        Checks.is("tops that are alike, without erosion", x.why(0), 3);
        Checks.is("on both sides", x.why(1), 3);
        Checks.is("one lower", x.why(2), 4);
    }

    private static void reasonNothing() {
        int[][] due = {{19, 50, 4}, {20, 50, 0}, {4, 200, 4}, {5, 200, 0}, {999, 1, 4}, {1000, 1, 0}, {9999, 0, 4},
            {1, 200, 4}};
        for (int[] d : due) {
            CrustBlocks x = Checks.standing(Checks.row(9, SEDIMENT, 22, d[0]));
            x.set(3, d[1]);
            Checks.is(d[0] + " * " + d[1] + " / 1000", x.why(9), d[2]);
        }
    }

    private static void withoutIceOfTheStep() {
        CrustBlocks x = Checks.standing(Checks.row(0, SEDIMENT, 22, 3000), Checks.row(9, ICE, 9, 1),
            Checks.row(9, SEDIMENT, 22, 1000));
        Checks.is("ice that would come", x.why(0), 0);
        Checks.is("ice that would be gone", x.why(9), 2);
    }

    private static void noValley() {
        CrustBlocks x = Checks.standing(Checks.row(4, ICE, 9, 5), Checks.row(5, ICE, 9, 5), Checks.row(6, ICE, 9, 5));
        Checks.is("alike on both sides", x.valley(5), Checks.NONE);
        Checks.is("lower on one", x.valley(4), 3);
        Checks.is("lower on the other", x.valley(6), 7);
        x.addLayer(5, 0, ICE, 9, 1);
        Checks.is("higher by 1 than both", x.valley(5), 4);
        x.addLayer(4, 0, ICE, 9, 1);
        Checks.is("higher by 1 than one", x.valley(5), 6);
        Checks.is("at the ends", x.valley(0) == Checks.NONE && x.valley(9) == Checks.NONE ? 1 : 0, 1);
        CrustBlocks y = Checks.standing(Checks.row(1, ICE, 9, 1), Checks.row(8, ICE, 9, 1));
        Checks.is("higher neighbors alone, first", y.valley(0), Checks.NONE);
        Checks.is("higher neighbors alone, last", y.valley(9), Checks.NONE);
    }

    private static void stepsToBalance() {
        CrustBlocks x = Checks.standing(Checks.row(0, ICE, 9, 3), Checks.row(1, ICE, 9, 4), Checks.row(2, ICE, 9, 11));
        Checks.is("a gap of 0", x.stepsToBalance(0), 0);
        Checks.is("a gap of 1", x.stepsToBalance(1), 1);
        Checks.is("a gap of 3", x.stepsToBalance(2), 3);
        x.set(4, 67);
        Checks.is("a gap of 3, 2 of it in the first step", x.stepsToBalance(2), 2);
        x.set(4, 100);
        Checks.is("a gap of 3 at once", x.stepsToBalance(2), 1);
        x.settle();
        Checks.is("settled", x.stepsToBalance(2), 0);
        x.strip(ICE);
        Checks.is("a gap of -3", x.stepsToBalance(2), 1);
        x.set(4, 1);
        Checks.is("a gap of -3 by 1 each", x.stepsToBalance(2), 3);
        CrustBlocks far = new CrustBlocks();
        for (int n = 0; n < 8; n++) {
            far.addLayer(0, 0, ROCK, 32, 9999);
        }
        far.set(4, 1);
        // By hundredths from 77568 to 99, and then by 1 each.
        int gap = 8 * 32 * 9999 / 33;
        int steps = 0;
        for (; gap > 0; steps++) {
            gap -= gap >= 200 ? gap / 100 : 1;
        }
        Checks.is("the greatest gap", far.stepsToBalance(0), steps);
    }

    private static void floatingAlone() {
        CrustBlocks x = Checks.standing(Checks.row(0, ICE, 9, 11));
        Checks.is("ice that would be gone in the first step", x.stepsToBalance(0), 3);
        CrustBlocks y = Checks.standing(Checks.row(0, ICE, 9, 11));
        y.set(0, -5000);
        Checks.is("ice that would grow for ever", y.stepsToBalance(0), 3);
        for (int n = 0; n < 20; n++) {
            y.run(50);
        }
        Checks.is("the limit of steps does not matter", y.stepsToBalance(0) > 0 ? 1 : 0, 1);
    }

    private static void bareTops() {
        CrustBlocks x = Checks.standing(Checks.row(0, ICE, 9, 500), Checks.row(0, SEDIMENT, 22, 3),
            Checks.row(0, ICE, 9, 500), Checks.row(1, ICE, 9, 500),
            Checks.row(2, ROCK, 32, 1), Checks.row(3, ROCK, 32, 1), Checks.row(3, ROCK, 24, 1));
        Checks.is("ice above and below", x.bareTop(0), 1);
        Checks.is("ice alone", x.bareTop(1), 0);
        Checks.is("a weight of 32", x.bareTop(2), 1);
        Checks.is("a weight of 56", x.bareTop(3), 1);
        Checks.is("no layers", x.bareTop(4), 0);
        Checks.is("weights of 27 and 22", Checks.standing(Checks.row(9, ICE, 9, 3), Checks.row(9, SEDIMENT, 22, 1)).bareTop(9), 1);
        x.settle();
        Checks.is("the base does not matter", x.bareTop(0), 1);
        x.strip(ICE);
        Checks.is("a base without layers does not matter", x.bareTop(1), 0);
        Checks.is("nothing changed", x.block(1, 3), 4500 / 33);
    }

    private static void topsAhead() {
        CrustBlocks x = Checks.standing(Checks.row(0, ICE, 9, 5000));
        x.set(0, -5000);
        x.set(1, 1);
        x.set(4, 100);
        Checks.is("0", x.topIn(0, 0), 5000);
        Checks.is("1", x.topIn(0, 1), 5001 - 5001 * 9 / 33);
        Checks.is("100", x.topIn(0, 100), 5100 - 5100 * 9 / 33);
        Checks.is("another block", x.topIn(9, 100), 0);
        CrustBlocks y = Checks.still(Checks.standing(Checks.row(0, SEDIMENT, 22, 1000)), 100);
        y.set(4, 100);
        Checks.is("what a neighbor would give", y.topIn(1, 1), 100 - 66);
        Checks.is("and it is not given", y.block(1, 0), 0);
    }

    private static void behindTheLimit() {
        CrustBlocks x = Checks.standing(Checks.row(0, ICE, 9, 1));
        x.set(0, -5000);
        x.set(1, 1);
        x.set(4, 100);
        for (int n = 0; n < 20; n++) {
            x.run(50);
        }
        Checks.is("steps", x.count(0), 1000);
        Checks.is("1", x.topIn(0, 1), 1002 - 1002 * 9 / 33);
        Checks.is("100", x.topIn(0, 100), 1101 - 1101 * 9 / 33);
        Checks.is("steps still", x.count(0), 1000);
    }

    private static void noDifference() {
        CrustBlocks x = new CrustBlocks();
        for (int depth : new int[] {0, 1, 99999}) {
            Checks.is("difference", x.uneven(depth, 0), 0);
            Checks.is("greater", x.uneven(depth, 1), 0);
            Checks.is("lesser", x.uneven(depth, 2), 0);
        }
    }

    private static void smallestBlock() {
        CrustBlocks x = Checks.standing(Checks.row(3, ICE, 9, 5), Checks.row(7, ICE, 9, 5));
        Checks.is("greater", x.uneven(0, 1), 3);
        Checks.is("lesser", x.uneven(0, 2), 0);
        x.addLayer(0, 0, ICE, 9, 5);
        Checks.is("greater", x.uneven(0, 1), 0);
        Checks.is("lesser", x.uneven(0, 2), 1);
        CrustBlocks y = full();
        y.strip(ROCK);
        y.removeLayer(9, 0);
        Checks.is("all but one are the greatest", y.uneven(0, 1), 0);
        Checks.is("one is the least", y.uneven(0, 2), 9);
    }

    private static void differMost() {
        CrustBlocks x = Checks.standing(Checks.row(0, ICE, 9, 5), Checks.row(9, ICE, 9, 6), Checks.row(4, ICE, 9, 4));
        Checks.is("difference", x.uneven(0, 0), 54);
        Checks.is("greater", x.uneven(0, 1), 9);
        Checks.is("lesser", x.uneven(0, 2), 1);
        Checks.is("deepest", x.uneven(99999, 0), 54);
        CrustBlocks y = new CrustBlocks();
        for (int block = 0; block < 10; block++) {
            y.addLayer(block, 0, ICE, 9, 20 - block);
        }
        Checks.is("difference of the ends", y.uneven(0, 0), 81);
        Checks.is("the first", y.uneven(0, 1), 0);
        Checks.is("the last", y.uneven(0, 2), 9);
        // At the base the layers lie above as a whole; above it the rock weighs more.
        CrustBlocks z = Checks.loaded("0:r32*33;9:s*3000;");
        Checks.is("at 32", z.uneven(32, 0), (1000 + 32) * 22 - 33 * 32);
        Checks.is("at 2000, where all pressures are alike", z.uneven(2000, 0), 0);
    }
}

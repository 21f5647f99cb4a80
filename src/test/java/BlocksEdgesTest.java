/** "Terms", Blocks and layers, Accounts and Pressure: a test of its own for each sentence that names a boundary case. */
public final class BlocksEdgesTest {
    private static final int ICE = Checks.ICE;
    private static final int SEDIMENT = Checks.SEDIMENT;
    private static final int ROCK = Checks.ROCK;

    public static void main(String[] args) {
        Checks.sentence("at most 512 calls after it has been made", BlocksEdgesTest::the512thCall);
        Checks.sentence("There are ten blocks in a row, numbered from 0", BlocksEdgesTest::tenBlocks);
        Checks.sentence("There are ten blocks in a row, numbered from 0 (in a text)", BlocksEdgesTest::tenBlocksOfAText);
        Checks.sentence("There are ten blocks in a row: no ring", BlocksEdgesTest::noRing);
        Checks.sentence("the blocks k and k + 1 are neighbors", BlocksEdgesTest::neighbors);
        Checks.sentence("A block has at most 8 layers (by calls)", BlocksEdgesTest::eightByCalls);
        Checks.sentence("A block has at most 8 layers (by a text)", BlocksEdgesTest::eightByText);
        Checks.sentence("A block has at most 8 layers (by ice)", BlocksEdgesTest::eightByIce);
        Checks.sentence("A block has at most 8 layers (by sediment)", BlocksEdgesTest::eightBySediment);
        Checks.sentence("layers, numbered from 0 from the top down", BlocksEdgesTest::fromTheTopDown);
        Checks.sentence("a thickness, 1 to 9999", BlocksEdgesTest::thicknesses);
        Checks.sentence("The kinds are 0 ice, 1 sediment and 2 rock", BlocksEdgesTest::kinds);
        Checks.sentence("ice, with the density 9", BlocksEdgesTest::densityOfIce);
        Checks.sentence("sediment, with the density 22", BlocksEdgesTest::densityOfSediment);
        Checks.sentence("rock, with a density from 24 to 32", BlocksEdgesTest::densityOfRock);
        Checks.sentence("Layers that are added by calls or by the text are up to 9999 thick", BlocksEdgesTest::addedThickness);
        Checks.sentence("by steps they can become thicker (ice)", BlocksEdgesTest::thickerIce);
        Checks.sentence("by steps they can become thicker (sediment)", BlocksEdgesTest::thickerSediment);
        Checks.sentence("The weight of a layer is its density * its thickness", BlocksEdgesTest::weights);
        Checks.sentence("The balance of a block is its weight / 33, rounded down", BlocksEdgesTest::balances);
        Checks.sentence("The base of a block is a depth, 0 at first", BlocksEdgesTest::firstBase);
        Checks.sentence("its top is the sum of its thicknesses less its base", BlocksEdgesTest::tops);
        Checks.sentence("a block whose base is its balance floats", BlocksEdgesTest::floats);
        Checks.sentence("0 what was added by calls and texts", BlocksEdgesTest::added);
        Checks.sentence("1 what was removed by them", BlocksEdgesTest::removed);
        Checks.sentence("2 ice that grew", BlocksEdgesTest::grown);
        Checks.sentence("3 ice that melted", BlocksEdgesTest::melted);
        Checks.sentence("4 what was eroded, 5 sediment that was laid down (y * 22), 6 what was lost", BlocksEdgesTest::eroded);
        Checks.sentence("6 what was lost (4 less 5): all of it if there is no room", BlocksEdgesTest::allLost);
        Checks.sentence("The sum of the weights of all blocks is always 0 - 1 + 2 - 3 - 6", BlocksEdgesTest::sumOfAll);
        Checks.sentence("The sum is always 0 - 1 + 2 - 3 - 6: also of great accounts", BlocksEdgesTest::sumBehindManyRestores);
        Checks.sentence("The pressure at a depth p, 0 to 99999", BlocksEdgesTest::depths);
        Checks.sentence("the weight of all that lies above this depth: of its layers, as far as they do",
            BlocksEdgesTest::layersAbove);
        Checks.sentence("of its layers, as far as they do: none, if the top lies deeper", BlocksEdgesTest::topBelowTheDepth);
        Checks.sentence("of the mantle below its base: 33 * (p - base), if p is greater than the base",
            BlocksEdgesTest::mantleAbove);
        Checks.sentence("a layer lies at the depths from -top on", BlocksEdgesTest::layerFromItsTop);
        Checks.end();
    }

    private static void the512thCall() {
        CrustBlocks x = new CrustBlocks();
        for (int n = 1; n <= 511; n++) {
            Checks.is("call " + n, x.set(0, n), n == 1 ? 2000 : n - 1);
        }
        Checks.is("call 512", x.undo(), 4);
        CrustBlocks y = new CrustBlocks();
        for (int n = 1; n <= 140; n++) {
            Checks.is("call " + n, y.append(32), n);
        }
        for (int n = 141; n <= 160; n++) {
            Checks.is("call " + n, y.run(50), 50 * (n - 140));
        }
        for (int n = 161; n <= 511; n++) {
            Checks.is("call " + n, y.topIn(n % 10, 100), 0);
        }
        Checks.is("call 512", y.load(), 0);
    }

    private static void tenBlocks() {
        for (int block : new int[] {0, 9}) {
            CrustBlocks x = new CrustBlocks();
            Checks.is("addLayer " + block, x.addLayer(block, 0, SEDIMENT, 22, 5), 1);
            Checks.is("block " + block, x.block(block, 0), 1);
            Checks.is("layer " + block, x.layer(block, 0, 2), 5);
            Checks.is("density " + block, x.density(block, 4), 22);
            Checks.is("pressure " + block, x.pressure(block, 0), 110);
            Checks.is("why " + block, x.why(block), 4);
            Checks.is("valley " + block, x.valley(block), block == 0 ? 1 : 8);
            Checks.is("stepsToBalance " + block, x.stepsToBalance(block), 3);
            Checks.is("bareTop " + block, x.bareTop(block), 2);
            Checks.is("topIn " + block, x.topIn(block, 0), 5);
            Checks.is("removeLayer " + block, x.removeLayer(block, 0), 5);
        }
        for (int block : new int[] {-1, 10, Integer.MIN_VALUE, Integer.MAX_VALUE}) {
            CrustBlocks x = new CrustBlocks();
            Checks.is("addLayer " + block, x.addLayer(block, 0, SEDIMENT, 22, 5), Checks.INVALID);
            Checks.is("removeLayer " + block, x.removeLayer(block, 0), Checks.INVALID);
            Checks.is("block " + block, x.block(block, 0), Checks.INVALID);
            Checks.is("layer " + block, x.layer(block, 0, 2), Checks.INVALID);
            Checks.is("density " + block, x.density(block, 4), Checks.INVALID);
            Checks.is("pressure " + block, x.pressure(block, 0), Checks.INVALID);
            Checks.is("why " + block, x.why(block), Checks.INVALID);
            Checks.is("valley " + block, x.valley(block), Checks.INVALID);
            Checks.is("stepsToBalance " + block, x.stepsToBalance(block), Checks.INVALID);
            Checks.is("bareTop " + block, x.bareTop(block), Checks.INVALID);
            Checks.is("topIn " + block, x.topIn(block, 0), Checks.INVALID);
        }
    }

    private static void tenBlocksOfAText() {
        CrustBlocks x = Checks.loaded("0:i*1;9:i*2;");
        Checks.has(x, 0, "i*1");
        Checks.has(x, 9, "i*2");
        // The characters next to the digits.
        for (String text : new String[] {"/:i*1;", "::i*1;"}) {
            CrustBlocks y = new CrustBlocks();
            Checks.write(y, text);
            Checks.is(text, y.load(), Checks.TEXT_ERROR);
        }
    }

    private static void noRing() {
        CrustBlocks first = Checks.standing(Checks.row(0, SEDIMENT, 22, 1000), Checks.row(1, SEDIMENT, 22, 2000));
        Checks.is("valley of 0", first.valley(0), Checks.NONE);
        Checks.is("reason of 0", first.why(0), 3);
        CrustBlocks last = Checks.standing(Checks.row(9, SEDIMENT, 22, 1000), Checks.row(8, SEDIMENT, 22, 2000));
        Checks.is("valley of 9", last.valley(9), Checks.NONE);
        Checks.is("reason of 9", last.why(9), 3);
        Checks.still(first, 200).run(1);
        Checks.has(first, 0, "s*1000");
        Checks.has(first, 9, "");
        Checks.still(last, 200).run(1);
        Checks.has(last, 9, "s*1000");
        Checks.has(last, 0, "");
    }

    private static void neighbors() {
        for (int k = 0; k <= 8; k++) {
            CrustBlocks x = Checks.standing(Checks.row(k, SEDIMENT, 22, 10));
            if (k > 0) {
                x.addLayer(k - 1, 0, SEDIMENT, 22, 20);
            }
            Checks.is("of " + k, x.valley(k), k + 1);
            CrustBlocks y = Checks.standing(Checks.row(k + 1, SEDIMENT, 22, 10));
            if (k < 8) {
                y.addLayer(k + 2, 0, SEDIMENT, 22, 20);
            }
            Checks.is("of " + (k + 1), y.valley(k + 1), k);
        }
    }

    private static void eightByCalls() {
        CrustBlocks x = new CrustBlocks();
        for (int n = 1; n <= 8; n++) {
            Checks.is("layer " + n, x.addLayer(0, 0, ICE, 9, n), n);
        }
        Checks.is("a ninth", x.addLayer(0, 0, ICE, 9, 9), Checks.FULL);
        Checks.has(x, 0, "i*8+i*7+i*6+i*5+i*4+i*3+i*2+i*1");
    }

    private static void eightByText() {
        CrustBlocks x = Checks.loaded("0:i*1+i*2+i*3+i*4+i*5+i*6+i*7+i*8;");
        Checks.has(x, 0, "i*1+i*2+i*3+i*4+i*5+i*6+i*7+i*8");
        Checks.write(x, "0:i*1+i*2+i*3+i*4+i*5+i*6+i*7+i*8+i*9;");
        Checks.is("a ninth", x.load(), Checks.TEXT_ERROR - 34);
        Checks.has(x, 0, "i*1+i*2+i*3+i*4+i*5+i*6+i*7+i*8");
    }

    private static void eightByIce() {
        CrustBlocks x = Checks.loaded("0:" + Checks.rocks(7, 10) + ";3:" + Checks.rocks(8, 10) + ";");
        x.set(0, -5000);
        x.set(3, 0);
        x.run(1);
        Checks.has(x, 0, "i*100+" + Checks.rocks(7, 10));
        Checks.has(x, 3, Checks.rocks(8, 10));
    }

    private static void eightBySediment() {
        CrustBlocks x = Checks.still(Checks.loaded("0:" + Checks.rocks(7, 10) + ";9:" + Checks.rocks(8, 10) + ";"), 10);
        Checks.load(x, "1:s*9999;8:s*9999;");
        x.set(4, 1);
        // The tops are 3333 and 20 (70 - 50), 3333 and 22 (80 - 58): x = 33 each; the lower neighbors are 2 and 7.
        Checks.is("valley of 1", x.valley(1), 2);
        Checks.load(x, "2:s*9999;7:s*9999;");
        Checks.is("valley of 1", x.valley(1), 0);
        Checks.is("valley of 8", x.valley(8), 9);
        x.run(1);
        Checks.has(x, 0, "s*33+" + Checks.rocks(7, 10));
        Checks.has(x, 9, Checks.rocks(8, 10));
    }

    private static void fromTheTopDown() {
        CrustBlocks x = Checks.loaded("4:i*1+s*2+r24*3+r25*4+r26*5+r27*6+r28*7+r29*8;");
        for (int layer = 0; layer < 8; layer++) {
            Checks.is("layer " + layer, x.layer(4, layer, 2), layer + 1);
        }
        Checks.is("the top one lies highest", x.layer(4, 0, 3), x.block(4, 4));
        Checks.is("the last one lies lowest", x.layer(4, 7, 3), 8 - x.block(4, 3));
    }

    private static void thicknesses() {
        CrustBlocks x = new CrustBlocks();
        Checks.is("0", x.addLayer(0, 0, ICE, 9, 0), Checks.INVALID);
        Checks.is("1", x.addLayer(0, 0, ICE, 9, 1), 1);
        Checks.is("9999", x.addLayer(0, 0, ICE, 9, 9999), 2);
        Checks.is("10000", x.addLayer(0, 0, ICE, 9, 10000), Checks.INVALID);
        Checks.has(x, 0, "i*9999+i*1");
    }

    private static void kinds() {
        CrustBlocks x = new CrustBlocks();
        int[] densities = {9, 22, 24};
        for (int kind = 0; kind <= 2; kind++) {
            Checks.is("kind " + kind, x.addLayer(kind, 0, kind, densities[kind], 1), 1);
            Checks.is("kind " + kind, x.layer(kind, 0, 0), kind);
        }
        for (int kind : new int[] {-1, 3}) {
            for (int density : new int[] {9, 22, 24}) {
                Checks.is("kind " + kind, x.addLayer(5, 0, kind, density, 1), Checks.INVALID);
            }
        }
    }

    private static void densityOfIce() {
        dueDensities(ICE, 9, 9);
    }

    private static void densityOfSediment() {
        dueDensities(SEDIMENT, 22, 22);
    }

    private static void densityOfRock() {
        dueDensities(ROCK, 24, 32);
    }

    private static void dueDensities(int kind, int lowest, int highest) {
        for (int density = -1; density <= 40; density++) {
            CrustBlocks x = new CrustBlocks();
            boolean right = density >= lowest && density <= highest;
            Checks.is(kind + " of " + density, x.addLayer(0, 0, kind, density, 1), right ? 1 : Checks.INVALID);
            Checks.is(kind + " of " + density, x.layer(0, 0, 1), right ? density : Checks.NONE);
        }
    }

    private static void addedThickness() {
        CrustBlocks x = new CrustBlocks();
        Checks.write(x, "0:i*9999+s*9999+r24*9999;");
        Checks.is("9999 by the text", x.load(), 1);
        for (String text : new String[] {"0:i*10000;", "0:s*10000;"}) {
            Checks.write(x, text);
            Checks.is("10000 by the text", x.load(), Checks.TEXT_ERROR - 4);
            x.clearText();
        }
        Checks.write(x, "0:r24*10000;");
        Checks.is("10000 of rock by the text", x.load(), Checks.TEXT_ERROR - 6);
        Checks.is("9999 by a call", x.addLayer(1, 0, ROCK, 32, 9999), 1);
        Checks.is("10000 by a call", x.addLayer(1, 0, ROCK, 32, 10000), Checks.INVALID);
    }

    private static void thickerIce() {
        CrustBlocks x = Checks.standing(Checks.row(0, ICE, 9, 9999));
        x.set(0, -5000);
        x.set(1, 500);
        x.run(1);
        Checks.has(x, 0, "i*10499");
        Checks.is("weight", x.block(0, 1), 9 * 10499);
    }

    private static void thickerSediment() {
        CrustBlocks x = Checks.still(Checks.standing(
            Checks.row(0, SEDIMENT, 22, 5000), Checks.row(0, ROCK, 24, 9999),
            Checks.row(1, SEDIMENT, 22, 9999), Checks.row(2, SEDIMENT, 22, 9999)), 200);
        x.run(1);
        Checks.has(x, 0, "s*4000+r24*9999");
        Checks.has(x, 1, "s*10999");
        Checks.is("removed as thick as it is", x.removeLayer(1, 0), 10999);
    }

    private static void weights() {
        CrustBlocks x = Checks.loaded("0:i*9999+s*9999+r24*1+r32*9999;1:i*1;");
        Checks.is("of several layers", x.block(0, 1), 9 * 9999 + 22 * 9999 + 24 + 32 * 9999);
        Checks.is("of the thinnest", x.block(1, 1), 9);
        Checks.is("of none", x.block(2, 1), 0);
        CrustBlocks y = new CrustBlocks();
        for (int n = 0; n < 8; n++) {
            y.addLayer(9, n, ROCK, 32, 9999);
        }
        Checks.is("the greatest", y.block(9, 1), 8 * 32 * 9999);
    }

    private static void balances() {
        String[] layers = {"", "i*1", "i*3", "r32*1", "r24*1+i*1", "s*1+i*2", "r32*1+r24*1+i*1", "s*3", "s*3+i*1"};
        int[] weights = {0, 9, 27, 32, 33, 40, 65, 66, 75};
        for (int n = 0; n < layers.length; n++) {
            CrustBlocks x = Checks.loaded("3:" + layers[n] + ";");
            Checks.is("weight of " + layers[n], x.block(3, 1), weights[n]);
            Checks.is("balance of " + layers[n], x.block(3, 2), weights[n] / 33);
            Checks.is("base of " + layers[n], x.block(3, 3), weights[n] / 33);
        }
    }

    private static void firstBase() {
        CrustBlocks x = new CrustBlocks();
        for (int block = 0; block < 10; block++) {
            Checks.is("of " + block, x.block(block, 3), 0);
        }
        x.addLayer(3, 0, ROCK, 32, 9999);
        Checks.is("with a layer", x.block(3, 3), 0);
    }

    private static void tops() {
        CrustBlocks x = Checks.loaded("0:r32*3300;");
        Checks.is("above 0", x.block(0, 4), 100);
        x.removeLayer(0, 0);
        Checks.is("without layers", x.block(0, 4), -3200);
        x.addLayer(0, 0, ICE, 9, 3199);
        Checks.is("below 0", x.block(0, 4), -1);
        x.addLayer(0, 0, ICE, 9, 1);
        Checks.is("at 0", x.block(0, 4), 0);
        x.addLayer(0, 0, ICE, 9, 1);
        Checks.is("above 0 again", x.block(0, 4), 1);
        Checks.is("a block that never had layers", x.block(1, 4), 0);
    }

    private static void floats() {
        CrustBlocks x = Checks.still(Checks.loaded("0:s*3;"), 0);
        Checks.is("none is out of balance", x.count(9), 0);
        Checks.is("no steps", x.stepsToBalance(0), 0);
        x.run(1);
        Checks.is("the base stays", x.block(0, 3), 2);
        x.addLayer(0, 0, ICE, 9, 3);
        Checks.is("a weight of 93 is still in balance", x.count(9), 0);
        x.addLayer(0, 0, ICE, 9, 1);
        Checks.is("one of 102 is not", x.count(9), 1);
        Checks.is("one step", x.stepsToBalance(0), 1);
        x.run(1);
        Checks.is("it is again", x.count(9), 0);
    }

    private static void added() {
        CrustBlocks x = new CrustBlocks();
        x.addLayer(0, 0, ICE, 9, 1);
        Checks.is("addLayer", x.account(0), 9);
        Checks.load(x, "1:r32*10;2:;");
        Checks.is("load", x.account(0), 329);
        x.take(0);
        x.settle();
        x.strip(ICE);
        x.removeLayer(1, 0);
        Checks.is("the others add nothing", x.account(0), 329);
        x.restore(0);
        Checks.is("restore", x.account(0), 658);
        x.addLayer(0, 0, ICE, 9, 0);
        Checks.is("refused", x.account(0), 658);
    }

    private static void removed() {
        CrustBlocks x = Checks.standing(Checks.row(0, ICE, 9, 1), Checks.row(0, SEDIMENT, 22, 2),
            Checks.row(1, SEDIMENT, 22, 3));
        Checks.is("at first", x.account(1), 0);
        x.removeLayer(0, 0);
        Checks.is("removeLayer", x.account(1), 9);
        x.strip(ICE);
        Checks.is("strip of none", x.account(1), 9);
        x.take(1);
        x.strip(SEDIMENT);
        Checks.is("strip", x.account(1), 9 + 110);
        x.restore(1);
        Checks.is("restore to blocks without layers", x.account(1), 119);
        x.restore(1);
        Checks.is("restore of what is there", x.account(1), 229);
        Checks.load(x, "0:;5:i*5;");
        Checks.is("load", x.account(1), 229 + 44);
        x.removeLayer(0, 0);
        Checks.is("refused", x.account(1), 273);
    }

    private static void grown() {
        CrustBlocks x = Checks.standing(Checks.row(0, SEDIMENT, 22, 2001), Checks.row(5, ICE, 9, 2001),
            Checks.row(9, ICE, 9, 2000));
        x.set(2, 0);
        x.set(3, 0);
        x.set(1, 7);
        x.run(1);
        Checks.is("new ice and ice that was there", x.account(2), 2 * 7 * 9);
        x.undo();
        x.set(1, 0);
        x.run(1);
        Checks.is("without growth", x.account(2), 0);
        CrustBlocks full = Checks.still(Checks.loaded("0:" + Checks.rocks(8, 10) + ";"), 0);
        full.set(0, -5000);
        full.set(1, 500);
        full.run(1);
        Checks.is("no room", full.account(2), 0);
    }

    private static void melted() {
        CrustBlocks x = Checks.standing(
            Checks.row(0, ICE, 9, 99), Checks.row(2, ICE, 9, 100), Checks.row(4, ICE, 9, 101), Checks.row(4, ICE, 9, 50));
        x.run(1);
        Checks.is("no more than there was", x.account(3), 9 * (99 + 100 + 100));
        x.run(1);
        Checks.is("what is left of a layer, not of two", x.account(3), 9 * (99 + 100 + 101));
        x.set(2, 0);
        x.run(1);
        Checks.is("without melting", x.account(3), 9 * 300);
        x.set(2, 1);
        x.run(1);
        Checks.is("by 1", x.account(3), 9 * 301);
    }

    private static void eroded() {
        CrustBlocks x = Checks.still(Checks.standing(Checks.row(0, ROCK, 24, 1000)), 10);
        x.run(1);
        Checks.is("4", x.account(4), 240);
        Checks.is("5", x.account(5), 220);
        Checks.is("6", x.account(6), 20);
        CrustBlocks y = Checks.still(Checks.standing(Checks.row(0, ROCK, 24, 1000)), 11);
        y.run(1);
        Checks.is("4", y.account(4), 264);
        Checks.is("5", y.account(5), 264);
        Checks.is("6: 264 / 22 has no rest", y.account(6), 0);
        CrustBlocks z = Checks.still(Checks.standing(Checks.row(0, ROCK, 24, 999)), 1);
        z.run(1);
        Checks.is("4: x is 0", z.account(4), 0);
        Checks.is("5: x is 0", z.account(5), 0);
        Checks.is("6: x is 0", z.account(6), 0);
    }

    private static void allLost() {
        CrustBlocks x = Checks.still(Checks.loaded("0:r24*3300;1:" + Checks.rocks(8, 1) + ";2:r24*3300;"), 100);
        x.removeLayer(2, 0);
        x.addLayer(2, 0, ICE, 9, 9999);
        // The tops of 0 and 1 are 900 and 3: x = 89.
        x.run(1);
        Checks.has(x, 0, "r24*3211");
        Checks.has(x, 1, Checks.rocks(8, 1));
        Checks.is("4", x.account(4), 89 * 24);
        Checks.is("5", x.account(5), 0);
        Checks.is("6", x.account(6), 89 * 24);
    }

    private static void sumOfAll() {
        CrustBlocks x = new CrustBlocks();
        dueSum(x, "at first");
        Checks.load(x, "0:r24*9000;1:i*50;2:" + Checks.rocks(8, 1) + ";3:r31*9000;9:i*90+s*40;");
        dueSum(x, "load");
        for (int n = 0; n < 12; n++) {
            x.run(n % 3 + 1);
            dueSum(x, "run " + n);
        }
        x.take(0);
        x.strip(ICE);
        dueSum(x, "strip");
        x.removeLayer(3, 0);
        dueSum(x, "removeLayer");
        x.restore(0);
        dueSum(x, "restore");
        x.settle();
        dueSum(x, "settle");
        x.addLayer(6, 0, ROCK, 24, 9999);
        dueSum(x, "addLayer");
        for (int left = 4; left >= 0; left--) {
            Checks.is("undo", x.undo(), left);
            dueSum(x, "undo");
        }
    }

    /** Accounts that leave the range of int wrap around, so that the sum holds in int all the same. */
    private static void sumBehindManyRestores() {
        CrustBlocks x = new CrustBlocks();
        for (int n = 0; n < 80; n++) {
            x.addLayer(n / 8, 0, ROCK, 32, 9999);
        }
        x.take(0);
        for (int n = 0; n < 200; n++) {
            x.restore(0);
        }
        Checks.is("added", x.account(0), (int) (201L * 80 * 32 * 9999));
        Checks.is("removed", x.account(1), (int) (200L * 80 * 32 * 9999));
        dueSum(x, "200 restores");
    }

    private static void dueSum(CrustBlocks x, String behind) {
        int sum = 0;
        for (int block = 0; block < 10; block++) {
            sum += x.block(block, 1);
        }
        Checks.is("account 7 behind " + behind, x.account(7), sum);
        Checks.is("the others behind " + behind,
            x.account(0) - x.account(1) + x.account(2) - x.account(3) - x.account(6), sum);
    }

    private static void depths() {
        CrustBlocks x = new CrustBlocks();
        Checks.is("0", x.pressure(0, 0), 0);
        Checks.is("99999", x.pressure(0, 99999), 33 * 99999);
        Checks.is("-1", x.pressure(0, -1), Checks.INVALID);
        Checks.is("100000", x.pressure(0, 100000), Checks.INVALID);
    }

    private static void layersAbove() {
        // The base is (90 + 220 + 2400) / 33 = 82, so the top is 38: ice to the depth -28, sediment to -18.
        CrustBlocks x = Checks.loaded("0:i*10+s*10+r24*100;");
        Checks.is("at 0", x.pressure(0, 0), 90 + 220 + 18 * 24);
        Checks.is("at 1", x.pressure(0, 1), 90 + 220 + 19 * 24);
        Checks.is("above the base by 1", x.pressure(0, 81), 90 + 220 + 99 * 24);
        Checks.is("at the base", x.pressure(0, 82), 2710);
    }

    private static void topBelowTheDepth() {
        CrustBlocks x = Checks.loaded("0:r32*3300;");
        x.strip(ROCK);
        x.addLayer(0, 0, ICE, 9, 10);
        x.addLayer(0, 1, ROCK, 24, 10);
        // The top lies at the depth 3180, the rock from 3190 to 3200.
        int[][] due = {{0, 0}, {3179, 0}, {3180, 0}, {3181, 9}, {3190, 90}, {3191, 114}, {3200, 330}, {3201, 363}};
        for (int[] d : due) {
            Checks.is("at " + d[0], x.pressure(0, d[0]), d[1]);
        }
    }

    private static void mantleAbove() {
        CrustBlocks x = Checks.loaded("0:s*3;");
        Checks.is("at the base", x.pressure(0, 2), 66);
        Checks.is("below it by 1", x.pressure(0, 3), 99);
        Checks.is("deepest", x.pressure(0, 99999), 66 + 33 * 99997);
        CrustBlocks y = Checks.loaded("0:r32*3300;");
        y.strip(ROCK);
        Checks.is("no layers, at the base", y.pressure(0, 3200), 0);
        Checks.is("no layers, below it by 1", y.pressure(0, 3201), 33);
    }

    private static void layerFromItsTop() {
        CrustBlocks x = Checks.loaded("0:r32*3300;");
        x.strip(ROCK);
        x.addLayer(0, 0, SEDIMENT, 22, 3200);
        Checks.is("top", x.block(0, 4), 0);
        Checks.is("a top at 0", x.pressure(0, 0), 0);
        Checks.is("and below it", x.pressure(0, 1), 22);
        x.addLayer(0, 0, ICE, 9, 1);
        Checks.is("a top at 1", x.pressure(0, 0), 9);
        Checks.is("and below", x.pressure(0, 1), 31);
    }
}

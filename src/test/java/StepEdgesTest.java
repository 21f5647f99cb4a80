/** "Terms", A step: a test of its own for each sentence that names a boundary case. */
public final class StepEdgesTest {
    private static final int ICE = Checks.ICE;
    private static final int SEDIMENT = Checks.SEDIMENT;
    private static final int ROCK = Checks.ROCK;

    public static void main(String[] args) {
        ice();
        erosion();
        floating();
        Checks.end();
    }

    private static void ice() {
        Checks.sentence("a snow line from -5000 to 9999 (at first 2000)", () -> dueSetting(0, -5000, 9999, 2000));
        Checks.sentence("a growth from 0 to 500 (at first 100)", () -> dueSetting(1, 0, 500, 100));
        Checks.sentence("a melting from 0 to 500 (at first 100)", () -> dueSetting(2, 0, 500, 100));
        Checks.sentence("an erosion from 0 to 200 per mille (at first 50)", () -> dueSetting(3, 0, 200, 50));
        Checks.sentence("a rate from 1 to 100 percent (at first 40)", () -> dueSetting(4, 1, 100, 40));
        Checks.sentence("A step does these things one after the other", StepEdgesTest::oneAfterTheOther);
        Checks.sentence("Ice: if the block has layers", StepEdgesTest::noLayersNoIce);
        Checks.sentence("and its top is greater than the snow line", StepEdgesTest::aboveTheSnowLine);
        Checks.sentence("its top is greater than the snow line: -5000", StepEdgesTest::lowestSnowLine);
        Checks.sentence("its top is greater than the snow line: 9999", StepEdgesTest::highestSnowLine);
        Checks.sentence("if its layer 0 is ice, this becomes thicker by the growth", StepEdgesTest::iceGrows);
        Checks.sentence("if its layer 0 is ice, also in a block of 8 layers", StepEdgesTest::iceOfAFullBlockGrows);
        Checks.sentence("otherwise, if it has less than 8 layers", StepEdgesTest::roomForIce);
        Checks.sentence("and the growth is greater than 0", StepEdgesTest::growthOfNothing);
        Checks.sentence("an ice layer with the growth as its thickness comes on top", StepEdgesTest::iceComesOnTop);
        Checks.sentence("If its top is not greater, and its layer 0 is ice, this becomes thinner", StepEdgesTest::iceMelts);
        Checks.sentence("If its layer 0 is not ice, nothing melts", StepEdgesTest::coveredIceStays);
        Checks.sentence("or is gone if it is not thicker than that", StepEdgesTest::iceIsGone);
        Checks.sentence("this is gone, not the ice under it", StepEdgesTest::oneIceIsGone);
    }

    private static void dueSetting(int what, int lowest, int highest, int first) {
        CrustBlocks x = new CrustBlocks();
        Checks.is("at first", x.count(what + 1), first);
        Checks.is("below the lowest", x.set(what, lowest - 1), Checks.INVALID);
        Checks.is("above the highest", x.set(what, highest + 1), Checks.INVALID);
        Checks.is("still as at first", x.count(what + 1), first);
        Checks.is("the lowest", x.set(what, lowest), first);
        Checks.is("the highest", x.set(what, highest), lowest);
        Checks.is("the highest is kept", x.count(what + 1), highest);
    }

    /** Ice that comes is not eroded but weighs on the base in the same step; ice that goes bares what is eroded. */
    private static void oneAfterTheOther() {
        CrustBlocks x = Checks.standing(
            Checks.row(0, SEDIMENT, 22, 2001), Checks.row(5, ICE, 9, 100), Checks.row(5, SEDIMENT, 22, 1000));
        x.set(4, 100);
        x.run(1);
        Checks.has(x, 0, "i*100+s*2001");
        Checks.is("base with the new ice", x.block(0, 3), (900 + 44022) / 33);
        Checks.has(x, 5, "s*950");
        Checks.has(x, 4, "s*50");
        Checks.is("base without what has gone", x.block(5, 3), 950 * 22 / 33);
        Checks.is("base with what has come", x.block(4, 3), 50 * 22 / 33);
    }

    private static void noLayersNoIce() {
        CrustBlocks x = Checks.loaded("3:r32*3300;");
        x.strip(ROCK);
        x.set(0, -5000);
        x.run(1);
        Checks.is("layers", x.count(6), 0);
        Checks.is("ice", x.account(2), 0);
    }

    private static void aboveTheSnowLine() {
        CrustBlocks x = Checks.standing(Checks.row(0, SEDIMENT, 22, 1999), Checks.row(3, SEDIMENT, 22, 2000),
            Checks.row(6, SEDIMENT, 22, 2001));
        x.set(3, 0);
        x.run(1);
        Checks.has(x, 0, "s*1999");
        Checks.has(x, 3, "s*2000");
        Checks.has(x, 6, "i*100+s*2001");
    }

    private static void lowestSnowLine() {
        CrustBlocks x = Checks.loaded("0:s*7502;5:s*7502;");
        x.strip(SEDIMENT);
        x.set(0, -5000);
        x.set(3, 0);
        x.addLayer(0, 0, ICE, 9, 1);
        x.addLayer(5, 0, ICE, 9, 2);
        Checks.is("top of 0", x.block(0, 4), -5000);
        Checks.is("top of 5", x.block(5, 4), -4999);
        x.run(1);
        Checks.has(x, 0, "");
        Checks.has(x, 5, "i*102");
    }

    private static void highestSnowLine() {
        CrustBlocks x = Checks.standing(
            Checks.row(0, SEDIMENT, 22, 9999), Checks.row(5, SEDIMENT, 22, 9999), Checks.row(5, SEDIMENT, 22, 1));
        x.set(0, 9999);
        x.set(3, 0);
        x.run(1);
        Checks.has(x, 0, "s*9999");
        Checks.has(x, 5, "i*100+s*9999+s*1");
    }

    private static void iceGrows() {
        for (int growth : new int[] {0, 1, 500}) {
            CrustBlocks x = Checks.standing(Checks.row(0, ICE, 9, 2001), Checks.row(0, ICE, 9, 1));
            x.set(1, growth);
            x.run(1);
            Checks.has(x, 0, "i*" + (2001 + growth) + "+i*1");
        }
    }

    private static void iceOfAFullBlockGrows() {
        CrustBlocks x = Checks.loaded("0:i*5+" + Checks.rocks(7, 10) + ";");
        x.set(0, -5000);
        x.run(1);
        Checks.has(x, 0, "i*105+" + Checks.rocks(7, 10));
        Checks.is("ice that grew", x.account(2), 900);
    }

    private static void roomForIce() {
        CrustBlocks x = Checks.loaded("0:" + Checks.rocks(7, 10) + ";5:" + Checks.rocks(8, 10) + ";");
        x.set(0, -5000);
        x.set(3, 0);
        x.run(1);
        Checks.has(x, 0, "i*100+" + Checks.rocks(7, 10));
        Checks.has(x, 5, Checks.rocks(8, 10));
        Checks.is("ice that grew", x.account(2), 900);
        x.run(1);
        Checks.has(x, 0, "i*200+" + Checks.rocks(7, 10));
    }

    private static void growthOfNothing() {
        CrustBlocks x = Checks.standing(Checks.row(0, SEDIMENT, 22, 3000));
        x.set(3, 0);
        x.set(1, 0);
        x.run(1);
        Checks.has(x, 0, "s*3000");
        x.undo();
        x.set(1, 1);
        x.run(1);
        Checks.has(x, 0, "i*1+s*3000");
    }

    private static void iceComesOnTop() {
        CrustBlocks x = Checks.standing(Checks.row(0, SEDIMENT, 22, 3000), Checks.row(0, ICE, 9, 7));
        x.set(1, 500);
        x.run(1);
        Checks.has(x, 0, "i*500+s*3000+i*7");
        Checks.is("its density", x.layer(0, 0, 1), 9);
    }

    private static void iceMelts() {
        int[][] due = {{0, 5, 5}, {0, 1, 1}, {1, 2, 1}, {500, 501, 1}, {100, 1999, 1899}};
        for (int[] d : due) {
            CrustBlocks x = Checks.standing(Checks.row(4, ICE, 9, d[1]));
            x.set(2, d[0]);
            x.run(1);
            Checks.has(x, 4, "i*" + d[2]);
            Checks.is("ice that melted", x.account(3), 9 * (d[1] - d[2]));
        }
        CrustBlocks y = Checks.standing(Checks.row(4, ICE, 9, 2000));
        y.run(1);
        Checks.has(y, 4, "i*1900");
    }

    private static void coveredIceStays() {
        CrustBlocks x = Checks.standing(Checks.row(4, SEDIMENT, 22, 1), Checks.row(4, ICE, 9, 50));
        x.set(3, 0);
        x.run(1);
        Checks.has(x, 4, "s*1+i*50");
        Checks.is("ice that melted", x.account(3), 0);
    }

    private static void iceIsGone() {
        int[][] due = {{100, 99}, {100, 100}, {1, 1}, {500, 500}, {500, 1}};
        for (int[] d : due) {
            CrustBlocks x = Checks.standing(Checks.row(4, ICE, 9, d[1]), Checks.row(4, ROCK, 24, 1));
            x.set(2, d[0]);
            x.run(1);
            Checks.has(x, 4, "r24*1");
            Checks.is("ice that melted", x.account(3), 9 * d[1]);
        }
        CrustBlocks x = Checks.standing(Checks.row(4, ICE, 9, 101), Checks.row(4, ROCK, 24, 1));
        x.run(1);
        Checks.has(x, 4, "i*1+r24*1");
        CrustBlocks last = Checks.standing(Checks.row(4, ICE, 9, 100));
        last.run(1);
        Checks.is("the last layer of its block", last.block(4, 0), 0);
        CrustBlocks deep = Checks.loaded("4:i*110;");
        deep.run(1);
        Checks.is("the base with 10 of ice left", deep.block(4, 3), 30 - 11);
        deep.run(1);
        Checks.is("the last layer of a block with a base", deep.block(4, 0), 0);
        Checks.is("the base goes on from where it was", deep.block(4, 3), 19 - 7);
    }

    private static void oneIceIsGone() {
        CrustBlocks x = Checks.standing(Checks.row(4, ICE, 9, 20), Checks.row(4, ICE, 9, 30));
        x.run(1);
        Checks.has(x, 4, "i*30");
        Checks.is("ice that melted", x.account(3), 180);
    }

    private static void erosion() {
        Checks.sentence("A block is eroded if it has layers", StepEdgesTest::noLayersNoErosion);
        Checks.sentence("its layer 0 is not ice", StepEdgesTest::iceIsNotEroded);
        Checks.sentence("and a neighbor has a lower top", StepEdgesTest::lowerTop);
        Checks.sentence("a neighbor has a lower top: one without layers, one of ice", StepEdgesTest::anyNeighbor);
        Checks.sentence("The neighbor with the lower top of the two", StepEdgesTest::lowerOfTheTwo);
        Checks.sentence("of two that are alike that with the smaller number", StepEdgesTest::twoThatAreAlike);
        Checks.sentence("x = d * erosion / 1000, rounded down", StepEdgesTest::takenRoundedDown);
        Checks.sentence("an erosion of 0 and of 200", StepEdgesTest::endsOfErosion);
        Checks.sentence("but at most the thickness of the layer 0", StepEdgesTest::atMostTheLayer);
        Checks.sentence("All this is found for all blocks as they are behind 1: with the new ice",
            StepEdgesTest::foundBehindIce);
        Checks.sentence("All this is found for all blocks as they are behind 1: not as others leave them",
            StepEdgesTest::foundAhead);
        Checks.sentence("All this is found for all blocks as they are behind 1: anew in each step", StepEdgesTest::foundAnew);
        Checks.sentence("it is done block by block in ascending order", StepEdgesTest::ascending);
        Checks.sentence("and is gone if nothing is left of it", StepEdgesTest::goneLayer);
        Checks.sentence("y = x * (density of the layer) / 22, rounded down", StepEdgesTest::laidRoundedDown);
        Checks.sentence("its topmost layer that is not ice becomes thicker by y, if this is sediment",
            StepEdgesTest::ontoSediment);
        Checks.sentence("if this is sediment: not sediment under rock", StepEdgesTest::sedimentUnderRock);
        Checks.sentence("if this is sediment: also in a full valley", StepEdgesTest::ontoSedimentOfAFullBlock);
        Checks.sentence("otherwise, if the valley has less than 8 layers", StepEdgesTest::roomForSediment);
        Checks.sentence("a sediment layer with the thickness y comes ahead of this layer", StepEdgesTest::aheadOfRock);
        Checks.sentence("(or behind all its ice, if it has no other layer)", StepEdgesTest::behindAllIce);
        Checks.sentence("otherwise y counts as 0", StepEdgesTest::noRoomForSediment);
        Checks.sentence("What the valley itself loses has been done already if its number is smaller",
            StepEdgesTest::valleyLostBefore);
        Checks.sentence("What the valley itself loses has not been done if its number is greater",
            StepEdgesTest::valleyLosesBehind);
        Checks.sentence("it is this layer all the same that becomes thinner", StepEdgesTest::coveredLayer);
        Checks.sentence("it is this layer all the same, and it is gone if nothing is left of it",
            StepEdgesTest::coveredLayerGone);
        Checks.sentence("it is this layer: one of sediment that became thicker", StepEdgesTest::thickerLayer);
    }

    private static CrustBlocks eroding(int erosion, int[]... rows) {
        return Checks.still(Checks.standing(rows), erosion);
    }

    private static void noLayersNoErosion() {
        CrustBlocks x = Checks.still(Checks.loaded("0:s*330;1:s*3300;"), 200);
        x.strip(SEDIMENT);
        Checks.is("a lower neighbor", x.valley(0), 1);
        x.run(1);
        Checks.is("layers", x.count(6), 0);
        Checks.is("eroded", x.account(4), 0);
    }

    private static void iceIsNotEroded() {
        CrustBlocks x = eroding(200, Checks.row(0, ICE, 9, 1), Checks.row(0, SEDIMENT, 22, 1000),
            Checks.row(9, SEDIMENT, 22, 10), Checks.row(9, ICE, 9, 1000));
        x.run(1);
        Checks.has(x, 0, "i*1+s*1000");
        Checks.has(x, 1, "");
        Checks.has(x, 9, "i*1000");
        Checks.has(x, 8, "s*10");
    }

    private static CrustBlocks plain(int erosion) {
        CrustBlocks x = new CrustBlocks();
        for (int block = 0; block < 10; block++) {
            x.addLayer(block, 0, SEDIMENT, 22, 1000);
        }
        return Checks.still(x, erosion);
    }

    private static void lowerTop() {
        CrustBlocks x = plain(200);
        x.run(1);
        Checks.is("all are alike", x.account(4), 0);
        CrustBlocks y = plain(200);
        y.addLayer(5, 0, SEDIMENT, 22, 4);
        y.run(1);
        Checks.is("d = 4", y.account(4), 0);
        CrustBlocks z = plain(200);
        z.addLayer(5, 0, SEDIMENT, 22, 5);
        z.run(1);
        Checks.is("d = 5", z.account(4), 22);
        Checks.has(z, 5, "s*4+s*1000");
        CrustBlocks low = plain(200);
        low.removeLayer(5, 0);
        low.addLayer(5, 0, SEDIMENT, 22, 995);
        low.run(1);
        Checks.is("only its neighbors have a lower one", low.account(4), 44);
        Checks.has(low, 5, "s*997");
    }

    private static void anyNeighbor() {
        CrustBlocks x = eroding(100, Checks.row(0, SEDIMENT, 22, 1000), Checks.row(9, SEDIMENT, 22, 1000),
            Checks.row(8, ICE, 9, 990));
        x.run(1);
        Checks.has(x, 1, "s*100");
        Checks.has(x, 8, "i*990+s*1");
    }

    private static void lowerOfTheTwo() {
        CrustBlocks right = eroding(200, Checks.row(4, SEDIMENT, 22, 1000), Checks.row(5, SEDIMENT, 22, 2000),
            Checks.row(6, SEDIMENT, 22, 999));
        Checks.is("the right one", right.valley(5), 6);
        right.run(1);
        Checks.is("it has got 1001 * 200 / 1000, and given 199", right.block(6, 5), 999 + 200 - 199);
        CrustBlocks left = eroding(200, Checks.row(4, SEDIMENT, 22, 999), Checks.row(5, SEDIMENT, 22, 2000),
            Checks.row(6, SEDIMENT, 22, 1000));
        Checks.is("the left one", left.valley(5), 4);
        left.run(1);
        Checks.is("it has got 200 and given 199", left.block(4, 5), 999 + 200 - 199);
        Checks.is("the other has given 200", left.block(6, 5), 800);
        CrustBlocks one = eroding(200, Checks.row(4, SEDIMENT, 22, 2000), Checks.row(5, SEDIMENT, 22, 1000),
            Checks.row(6, SEDIMENT, 22, 999));
        Checks.is("only one is lower", one.valley(5), 6);
        CrustBlocks other = eroding(200, Checks.row(4, SEDIMENT, 22, 999), Checks.row(5, SEDIMENT, 22, 1000),
            Checks.row(6, SEDIMENT, 22, 2000));
        Checks.is("only the other is lower", other.valley(5), 4);
    }

    private static void twoThatAreAlike() {
        for (int block = 1; block <= 8; block++) {
            CrustBlocks x = eroding(100, Checks.row(block, SEDIMENT, 22, 1000));
            x.run(1);
            Checks.has(x, block - 1, "s*100");
            Checks.has(x, block + 1, "");
        }
    }

    private static void takenRoundedDown() {
        int[][] due = {{1000, 1, 1}, {999, 1, 0}, {1999, 1, 1}, {2000, 1, 2}, {5, 199, 0}, {5, 200, 1}, {9, 200, 1},
            {10, 200, 2}, {1001, 50, 50}};
        for (int[] d : due) {
            CrustBlocks x = eroding(d[1], Checks.row(0, SEDIMENT, 22, d[0]));
            x.run(1);
            Checks.is(d[0] + " * " + d[1] + " / 1000", x.account(4), 22 * d[2]);
            Checks.has(x, 0, "s*" + (d[0] - d[2]));
        }
    }

    private static void endsOfErosion() {
        CrustBlocks none = eroding(0, Checks.row(0, SEDIMENT, 22, 9999));
        none.run(1);
        Checks.has(none, 0, "s*9999");
        CrustBlocks most = eroding(200, Checks.row(0, SEDIMENT, 22, 9999));
        most.run(1);
        Checks.has(most, 0, "s*8000");
        Checks.has(most, 1, "s*1999");
    }

    private static void atMostTheLayer() {
        int[][] due = {{101, 100, 1}, {100, 100, 0}, {99, 99, 0}, {1, 1, 0}};
        for (int[] d : due) {
            CrustBlocks x = eroding(100, Checks.row(0, SEDIMENT, 22, d[0]), Checks.row(0, SEDIMENT, 22, 1000 - d[0]));
            x.run(1);
            Checks.has(x, 0, (d[2] == 0 ? "" : "s*" + d[2] + "+") + "s*" + (1000 - d[0]));
            Checks.has(x, 1, "s*" + d[1]);
            Checks.is("eroded", x.account(4), 22 * d[1]);
        }
    }

    private static void foundBehindIce() {
        CrustBlocks x = Checks.standing(Checks.row(3, ICE, 9, 5000), Checks.row(4, SEDIMENT, 22, 1000),
            Checks.row(5, SEDIMENT, 22, 1001));
        x.set(0, 1000);
        x.set(3, 200);
        x.run(1);
        Checks.has(x, 5, "i*100+s*1001");
        Checks.has(x, 4, "s*1000");
        CrustBlocks melting = Checks.standing(Checks.row(0, ICE, 9, 100), Checks.row(1, SEDIMENT, 22, 100),
            Checks.row(2, SEDIMENT, 22, 100));
        melting.set(3, 200);
        melting.run(1);
        // The ice of 0 is gone, so it lies 100 below 1; and 2 has 3 for its valley.
        Checks.has(melting, 0, "s*20");
        Checks.has(melting, 1, "s*80");
        CrustBlocks bared = Checks.standing(Checks.row(0, ICE, 9, 10), Checks.row(0, SEDIMENT, 22, 100));
        bared.set(3, 100);
        bared.run(1);
        Checks.has(bared, 0, "s*90");
    }

    private static void foundAhead() {
        CrustBlocks x = eroding(200, Checks.row(0, SEDIMENT, 22, 2000), Checks.row(1, SEDIMENT, 22, 1000),
            Checks.row(2, SEDIMENT, 22, 1005));
        x.run(1);
        // 0 would lift 1 above 2 ahead of its turn; but 1 has no lower neighbor.
        Checks.has(x, 0, "s*1800");
        Checks.has(x, 1, "s*1200");
        Checks.has(x, 2, "s*804");
        CrustBlocks y = eroding(200, Checks.row(7, SEDIMENT, 22, 1000), Checks.row(8, SEDIMENT, 22, 2000),
            Checks.row(9, SEDIMENT, 22, 1900));
        y.run(1);
        // 8 gives 200 to 7 and would be lower than 9 then; but its top was higher.
        Checks.has(y, 7, "s*1000");
        Checks.has(y, 6, "s*200");
        Checks.has(y, 8, "s*1800");
        Checks.has(y, 9, "s*1900");
    }

    private static void foundAnew() {
        CrustBlocks x = eroding(100, Checks.row(0, ROCK, 24, 2000), Checks.row(1, ROCK, 30, 1000));
        x.run(2);
        // The tops behind the first step are 1348, 653 and 100: x = 69, 55 and 10, from what is the layer 0 now.
        Checks.has(x, 0, "r24*1831");
        Checks.has(x, 1, "s*129+r30*900");
        Checks.has(x, 2, "s*181");
        Checks.has(x, 3, "s*10");
        CrustBlocks covered = eroding(100, Checks.row(0, SEDIMENT, 22, 1000));
        covered.run(1);
        covered.set(0, -5000);
        covered.set(1, 1);
        covered.run(1);
        Checks.has(covered, 0, "i*1+s*900");
        Checks.has(covered, 1, "i*1+s*100");
        Checks.is("eroded in the first step alone", covered.account(4), 2200);
    }

    private static void ascending() {
        // 1 has 8 layers and one of them will go, 0 gives before that; the other way round 8 makes room for 9.
        valleyLosesBehind();
        valleyLostBefore();
    }

    private static void goneLayer() {
        CrustBlocks x = eroding(100, Checks.row(0, SEDIMENT, 22, 100), Checks.row(0, ROCK, 24, 900));
        x.run(1);
        Checks.has(x, 0, "r24*900");
        CrustBlocks y = eroding(100, Checks.row(0, SEDIMENT, 22, 101), Checks.row(0, ROCK, 24, 899));
        y.run(1);
        Checks.has(y, 0, "s*1+r24*899");
        CrustBlocks last = Checks.still(Checks.loaded("9:s*1;8:s*9999;7:s*9999;"), 200);
        last.strip(SEDIMENT);
        last.addLayer(9, 0, SEDIMENT, 22, 1);
        last.run(1);
        Checks.is("the last layer of its block", last.block(9, 0), 0);
        Checks.has(last, 8, "s*1");
        CrustBlocks deep = Checks.still(Checks.loaded("9:s*30;8:s*9999;7:s*9999;"), 200);
        deep.strip(SEDIMENT);
        deep.addLayer(9, 0, SEDIMENT, 22, 10);
        deep.run(1);
        Checks.is("the last layer of a block with a base", deep.block(9, 0), 0);
        Checks.is("the base goes on from where it was", deep.block(9, 3), 20 - 8);
    }

    private static void laidRoundedDown() {
        int[][] due = {{24, 1, 1}, {24, 10, 10}, {24, 11, 12}, {24, 12, 13}, {32, 1, 1}, {32, 2, 2}, {32, 3, 4},
            {32, 11, 16}, {22, 1, 1}, {22, 200, 200}};
        for (int[] d : due) {
            CrustBlocks x = eroding(d[1], Checks.row(0, d[0] == 22 ? SEDIMENT : ROCK, d[0], 1000));
            x.run(1);
            Checks.has(x, 1, "s*" + d[2]);
            Checks.is("eroded", x.account(4), d[0] * d[1]);
            Checks.is("laid down", x.account(5), 22 * d[2]);
        }
    }

    private static void ontoSediment() {
        CrustBlocks x = eroding(100, Checks.row(0, SEDIMENT, 22, 1000), Checks.row(1, SEDIMENT, 22, 1));
        x.run(1);
        Checks.has(x, 1, "s*100");
        Checks.has(x, 2, "");
        CrustBlocks y = eroding(100, Checks.row(0, SEDIMENT, 22, 1009), Checks.row(1, ICE, 9, 1), Checks.row(1, ICE, 9, 1),
            Checks.row(1, SEDIMENT, 22, 3), Checks.row(1, SEDIMENT, 22, 4));
        y.run(1);
        Checks.has(y, 1, "i*1+i*1+s*103+s*4");
    }

    private static void sedimentUnderRock() {
        CrustBlocks x = eroding(100, Checks.row(0, SEDIMENT, 22, 1008), Checks.row(1, ICE, 9, 1),
            Checks.row(1, ROCK, 24, 3), Checks.row(1, SEDIMENT, 22, 4));
        x.run(1);
        Checks.has(x, 1, "i*1+s*100+r24*3+s*4");
    }

    private static void ontoSedimentOfAFullBlock() {
        CrustBlocks x = Checks.still(Checks.loaded("0:s*1;1:i*1+i*1+s*1+i*1+i*1+i*1+r24*1+r24*1;"), 100);
        x.addLayer(0, 0, SEDIMENT, 22, 1006);
        // The tops are 1007 and 8 - 106 / 33 = 5: x = 100.
        x.run(1);
        Checks.has(x, 1, "i*1+i*1+s*101+i*1+i*1+i*1+r24*1+r24*1");
        Checks.is("laid down", x.account(5), 2200);
    }

    private static void roomForSediment() {
        CrustBlocks x = Checks.still(Checks.loaded("0:s*1;1:" + Checks.rocks(7, 1) + ";2:i*9999;"), 100);
        x.addLayer(0, 0, SEDIMENT, 22, 1006);
        // The tops are 1007 and 7 - 168 / 33 = 2.
        x.run(1);
        Checks.has(x, 1, "s*100+" + Checks.rocks(7, 1));
        CrustBlocks y = Checks.still(Checks.loaded("0:s*1;1:" + Checks.rocks(8, 1) + ";2:i*9999;"), 100);
        y.addLayer(0, 0, SEDIMENT, 22, 1006);
        y.run(1);
        Checks.has(y, 1, Checks.rocks(8, 1));
        Checks.has(y, 0, "s*906+s*1");
    }

    private static void aheadOfRock() {
        CrustBlocks x = eroding(100, Checks.row(0, SEDIMENT, 22, 1000), Checks.row(1, ROCK, 24, 9));
        x.run(1);
        Checks.has(x, 1, "s*99+r24*9");
        CrustBlocks y = eroding(100, Checks.row(0, SEDIMENT, 22, 1000), Checks.row(1, ICE, 9, 4),
            Checks.row(1, ROCK, 24, 5), Checks.row(1, ICE, 9, 6));
        y.run(1);
        Checks.has(y, 1, "i*4+s*98+r24*5+i*6");
        CrustBlocks least = eroding(1, Checks.row(0, SEDIMENT, 22, 1000));
        least.run(1);
        Checks.has(least, 1, "s*1");
    }

    private static void behindAllIce() {
        CrustBlocks empty = eroding(100, Checks.row(9, SEDIMENT, 22, 1000));
        empty.run(1);
        Checks.has(empty, 8, "s*100");
        CrustBlocks one = eroding(100, Checks.row(9, SEDIMENT, 22, 1000), Checks.row(8, ICE, 9, 10));
        one.run(1);
        Checks.has(one, 8, "i*10+s*99");
        CrustBlocks seven = Checks.still(Checks.loaded("8:i*1+i*2+i*3+i*4+i*5+i*6+i*7;"), 100);
        // The top of 8 is 28 - 252 / 33 = 21, and 7 is higher.
        seven.addLayer(9, 0, SEDIMENT, 22, 1021);
        seven.addLayer(7, 0, ICE, 9, 500);
        seven.run(1);
        Checks.has(seven, 8, "i*1+i*2+i*3+i*4+i*5+i*6+i*7+s*100");
        CrustBlocks eight = Checks.still(Checks.loaded("8:i*1+i*2+i*3+i*4+i*5+i*6+i*7+i*8;"), 100);
        eight.addLayer(9, 0, SEDIMENT, 22, 1027);
        eight.addLayer(7, 0, ICE, 9, 500);
        eight.run(1);
        Checks.has(eight, 8, "i*1+i*2+i*3+i*4+i*5+i*6+i*7+i*8");
        Checks.has(eight, 9, "s*927");
    }

    private static void noRoomForSediment() {
        CrustBlocks x = Checks.still(Checks.loaded("1:" + Checks.rocks(8, 1) + ";"), 100);
        x.addLayer(0, 0, ROCK, 30, 1003);
        x.addLayer(2, 0, ICE, 9, 1003);
        // The top of 1 is 8 - 192 / 33 = 3.
        x.run(1);
        Checks.has(x, 0, "r30*903");
        Checks.has(x, 1, Checks.rocks(8, 1));
        Checks.is("eroded", x.account(4), 3000);
        Checks.is("laid down", x.account(5), 0);
        Checks.is("lost", x.account(6), 3000);
    }

    private static void valleyLostBefore() {
        // The top of 8 is 700 - 509 = 191: it gives its first layer to 7 and has room then.
        CrustBlocks x = Checks.still(Checks.loaded("8:r24*1+r24*99+" + Checks.rocks(6, 100) + ";"), 100);
        x.addLayer(9, 0, SEDIMENT, 22, 1191);
        x.run(1);
        Checks.has(x, 7, "s*1");
        Checks.has(x, 8, "s*100+r24*99+" + Checks.rocks(6, 100));
        Checks.has(x, 9, "s*1091");
        CrustBlocks y = eroding(100, Checks.row(8, SEDIMENT, 22, 7), Checks.row(8, ICE, 9, 93),
            Checks.row(9, SEDIMENT, 22, 1100));
        y.run(1);
        Checks.has(y, 8, "i*93+s*100");
    }

    private static void valleyLosesBehind() {
        // The top of 1 is 700 - 509 = 191: it gives its first layer to 2, but 0 finds no room before.
        CrustBlocks x = Checks.still(Checks.loaded("1:r24*1+r24*99+" + Checks.rocks(6, 100) + ";"), 100);
        x.addLayer(0, 0, SEDIMENT, 22, 1191);
        x.run(1);
        Checks.has(x, 0, "s*1091");
        Checks.has(x, 1, "r24*99+" + Checks.rocks(6, 100));
        Checks.has(x, 2, "s*1");
        Checks.is("lost", x.account(6), 2200 + 2);
    }

    private static void coveredLayer() {
        CrustBlocks x = eroding(100, Checks.row(0, ROCK, 24, 2000), Checks.row(1, ROCK, 30, 1000));
        x.run(1);
        Checks.has(x, 0, "r24*1900");
        Checks.has(x, 1, "s*109+r30*900");
        Checks.has(x, 2, "s*136");
        CrustBlocks chain = eroding(100, Checks.row(0, ROCK, 24, 4000), Checks.row(1, ROCK, 25, 3000),
            Checks.row(2, ROCK, 26, 2000), Checks.row(3, ROCK, 27, 1000));
        chain.run(1);
        Checks.has(chain, 0, "r24*3900");
        Checks.has(chain, 1, "s*109+r25*2900");
        Checks.has(chain, 2, "s*113+r26*1900");
        Checks.has(chain, 3, "s*118+r27*900");
        Checks.has(chain, 4, "s*122");
        CrustBlocks full = Checks.still(Checks.loaded("1:r32*100+" + Checks.rocks(6, 100) + ";"), 100);
        // The top of 1 is 700 - 17600 / 33 = 167: x = 16 from its rock of 32, under the eighth layer.
        full.addLayer(0, 0, SEDIMENT, 22, 1167);
        full.run(1);
        Checks.has(full, 1, "s*100+r32*84+" + Checks.rocks(6, 100));
        Checks.has(full, 2, "s*23");
    }

    private static void coveredLayerGone() {
        CrustBlocks x = eroding(100, Checks.row(0, ROCK, 24, 2000), Checks.row(1, ROCK, 30, 100), Checks.row(1, ROCK, 25, 900));
        x.run(1);
        Checks.has(x, 1, "s*109+r25*900");
        Checks.has(x, 2, "s*136");
        CrustBlocks y = eroding(100, Checks.row(0, ROCK, 24, 2000), Checks.row(1, ROCK, 30, 101), Checks.row(1, ROCK, 25, 899));
        y.run(1);
        Checks.has(y, 1, "s*109+r30*1+r25*899");
    }

    private static void thickerLayer() {
        CrustBlocks x = eroding(100, Checks.row(0, ROCK, 24, 2000), Checks.row(1, SEDIMENT, 22, 50),
            Checks.row(1, ROCK, 25, 950));
        x.run(1);
        // No more than the 50 that it had is taken from it.
        Checks.has(x, 1, "s*109+r25*950");
        Checks.has(x, 2, "s*50");
    }

    private static void floating() {
        Checks.sentence("If f is not 0: in balance the base stays", StepEdgesTest::inBalance);
        Checks.sentence("the base becomes greater by f * rate // 100, downward", StepEdgesTest::sinking);
        Checks.sentence("the base becomes greater by f * rate // 100, upward: rounded toward 0", StepEdgesTest::rising);
        Checks.sentence("or, if that is 0, by 1", StepEdgesTest::sinkingBy1);
        Checks.sentence("or, if that is 0, by -1", StepEdgesTest::risingBy1);
        Checks.sentence("a rate of 100 and of 1", StepEdgesTest::endsOfTheRate);
        Checks.sentence("Floating: let f be the balance less the base: also without layers",
            StepEdgesTest::floatingWithoutLayers);
    }

    /** The base behind a step of a block that has the gap f; the rock lies on the ice, so that this does not melt. */
    private static int moved(int f, int rate) {
        CrustBlocks x = new CrustBlocks();
        if (f > 0) {
            x.addLayer(3, 0, ROCK, 24, f);
            x.addLayer(3, 1, ICE, 9, f);
        } else if (f < 0) {
            Checks.load(x, "3:r24*" + -f + "+i*" + -f + ";");
            x.strip(ROCK);
            x.strip(ICE);
        }
        Checks.still(x, 0).set(4, rate);
        Checks.is("the gap", x.block(3, 2) - x.block(3, 3), f);
        int before = x.block(3, 3);
        x.run(1);
        return x.block(3, 3) - before;
    }

    private static void dueMoves(int[][] due) {
        for (int[] d : due) {
            Checks.is(d[0] + " * " + d[1] + " // 100", moved(d[0], d[1]), d[2]);
        }
    }

    private static void inBalance() {
        dueMoves(new int[][] {{0, 1, 0}, {0, 40, 0}, {0, 100, 0}});
    }

    private static void sinking() {
        dueMoves(new int[][] {{5, 40, 2}, {7, 40, 2}, {8, 40, 3}, {199, 1, 1}, {200, 1, 2}, {9999, 40, 3999},
            {3, 67, 2}, {3, 66, 1}});
    }

    private static void rising() {
        dueMoves(new int[][] {{-4, 40, -1}, {-5, 40, -2}, {-7, 40, -2}, {-8, 40, -3}, {-199, 1, -1}, {-200, 1, -2},
            {-9999, 40, -3999}, {-3, 66, -1}, {-3, 67, -2}});
    }

    private static void sinkingBy1() {
        dueMoves(new int[][] {{1, 40, 1}, {2, 40, 1}, {3, 40, 1}, {99, 1, 1}, {100, 1, 1}, {1, 1, 1}, {1, 99, 1}});
    }

    private static void risingBy1() {
        dueMoves(new int[][] {{-1, 40, -1}, {-2, 40, -1}, {-3, 40, -1}, {-99, 1, -1}, {-100, 1, -1}, {-1, 1, -1},
            {-1, 99, -1}});
    }

    private static void endsOfTheRate() {
        dueMoves(new int[][] {{1, 100, 1}, {7, 100, 7}, {9999, 100, 9999}, {-7, 100, -7}, {-9999, 100, -9999},
            {9999, 1, 99}, {-9999, 1, -99}});
    }

    private static void floatingWithoutLayers() {
        CrustBlocks x = Checks.loaded("0:r32*33;");
        x.strip(ROCK);
        x.run(1);
        Checks.is("32 * 40 // 100 less", x.block(0, 3), 20);
        x.run(50);
        Checks.is("never above 0", x.block(0, 3), 0);
        Checks.is("top", x.block(0, 4), 0);
    }
}

/** "Terms", Text: a test of its own for each sentence that names a boundary case. */
public final class TextEdgesTest {
    public static void main(String[] args) {
        Checks.sentence("a text of at most 140 characters", TextEdgesTest::longest);
        Checks.sentence("a text of 140 characters is read to its end", TextEdgesTest::longestIsRead);
        Checks.sentence("a sequence of items (possibly none)", TextEdgesTest::noItems);
        Checks.sentence("a sequence of items: as many as there is room for", TextEdgesTest::mostItems);
        Checks.sentence("each of which ends with \";\"", TextEdgesTest::endOfAnItem);
        Checks.sentence("BLOCK \":\"", TextEdgesTest::colon);
        Checks.sentence("and then layers from the top down", TextEdgesTest::topDown);
        Checks.sentence("layers, possibly none", TextEdgesTest::noLayers);
        Checks.sentence("with \"+\" between two of them", TextEdgesTest::plus);
        Checks.sentence("a layer is \"i\" or \"s\", \"*\" and its thickness", TextEdgesTest::iceAndSediment);
        Checks.sentence("or \"r\" and its density, \"*\" and its thickness", TextEdgesTest::rock);
        Checks.sentence("These are the layers of the block then", TextEdgesTest::inPlaceOfTheOldOnes);
        Checks.sentence("its base becomes its balance", TextEdgesTest::bases);
        Checks.sentence("the old weight counts as removed, the new one as added", TextEdgesTest::weights);
        Checks.sentence("BLOCK is one digit", TextEdgesTest::oneDigit);
        Checks.sentence("(a second one is not allowed itself)", TextEdgesTest::secondDigit);
        Checks.sentence("numbers in their ranges: the thickness", TextEdgesTest::rangeOfThickness);
        Checks.sentence("numbers in their ranges: the density", TextEdgesTest::rangeOfDensity);
        Checks.sentence("of digits", TextEdgesTest::digits);
        Checks.sentence("the first of several not 0", TextEdgesTest::zeroAhead);
        Checks.sentence("Spaces (code 32) may stand everywhere", TextEdgesTest::spacesEverywhere);
        Checks.sentence("except within numbers", TextEdgesTest::spacesWithinNumbers);
        Checks.sentence("Spaces (code 32): no other character", TextEdgesTest::onlySpaces);
        Checks.sentence("The text is read from left to right", TextEdgesTest::leftToRight);
        Checks.sentence("the offset (from 0) of the first character that is not allowed where it stands",
            TextEdgesTest::offsets);
        Checks.sentence("for a number that is out of its range or has a 0 ahead, its first digit", TextEdgesTest::firstDigit);
        Checks.sentence("(also if the text ends behind it)", TextEdgesTest::endBehindANumber);
        Checks.sentence("the letter of a ninth layer", TextEdgesTest::ninthLayer);
        Checks.sentence("If the text ends where something is missing, it is the length of the text",
            TextEdgesTest::endOfTheText);
        Checks.end();
    }

    private static void dueError(String text, int position) {
        CrustBlocks x = new CrustBlocks();
        Checks.write(x, text);
        Checks.is("'" + text + "'", x.load(), Checks.TEXT_ERROR - position);
    }

    /** The object behind a text that is right. */
    private static CrustBlocks dueItems(String text, int items) {
        CrustBlocks x = new CrustBlocks();
        Checks.write(x, text);
        Checks.is("'" + text + "'", x.load(), items);
        return x;
    }

    private static String repeated(String part, int times) {
        StringBuilder all = new StringBuilder();
        for (int n = 0; n < times; n++) {
            all.append(part);
        }
        return all.toString();
    }

    private static void longest() {
        CrustBlocks x = new CrustBlocks();
        Checks.write(x, repeated(" ", 139));
        Checks.is("the last", x.append(32), 140);
        Checks.is("one more", x.append(32), Checks.FULL);
        Checks.is("length", x.count(13), 140);
    }

    private static void longestIsRead() {
        String text = repeated(" ", 135) + "7:i*5;";
        CrustBlocks x = new CrustBlocks();
        Checks.write(x, text.substring(1));
        Checks.is("length", x.count(13), 140);
        Checks.is("items", x.load(), 1);
        Checks.has(x, 7, "i*5");
        Checks.write(x, text);
        Checks.is("without the character that found no room", x.load(), Checks.TEXT_ERROR - 140);
    }

    private static void noItems() {
        dueItems("", 0);
        dueItems(" ", 0);
        CrustBlocks x = dueItems(repeated(" ", 140), 0);
        Checks.is("the text is empty then", x.count(13), 0);
    }

    private static void mostItems() {
        dueItems("0:;", 1);
        dueItems("0:;9:;", 2);
        dueItems(repeated("5:;", 46), 46);
    }

    private static void endOfAnItem() {
        dueError("0:i*1", 5);
        dueError("0:", 2);
        dueError("0:i*1 1:i*1;", 6);
        dueError("0:i*1:", 5);
        dueError("0:i*1;;", 6);
        dueError(";", 0);
    }

    private static void colon() {
        dueError("0;", 1);
        dueError("0i*1;", 1);
        dueError("0::;", 2);
        dueError(":;", 0);
    }

    private static void topDown() {
        Checks.has(dueItems("0:i*1+s*2+r24*3;", 1), 0, "i*1+s*2+r24*3");
        Checks.has(dueItems("0:r24*3+s*2+i*1;", 1), 0, "r24*3+s*2+i*1");
    }

    private static void noLayers() {
        CrustBlocks x = dueItems("0:;", 1);
        Checks.has(x, 0, "");
        Checks.write(x, "0:i*1;0: ;");
        Checks.is("behind layers", x.load(), 2);
        Checks.has(x, 0, "");
    }

    private static void plus() {
        dueError("0:+i*1;", 2);
        dueError("0:i*1+;", 6);
        dueError("0:i*1++i*1;", 6);
        dueError("0:i*1i*1;", 5);
        dueError("0:i*1 s*1;", 6);
        dueError("0:+;", 2);
        Checks.has(dueItems("0:i*1+i*1;", 1), 0, "i*1+i*1");
    }

    private static void iceAndSediment() {
        CrustBlocks x = dueItems("0:i*1+s*1;", 1);
        Checks.is("density of ice", x.layer(0, 0, 1), 9);
        Checks.is("density of sediment", x.layer(0, 1, 1), 22);
        dueError("0:i9*1;", 3);
        dueError("0:s22*1;", 3);
        dueError("0:i1;", 3);
        dueError("0:i;", 3);
        dueError("0:i*;", 4);
        dueError("0:*1;", 2);
        dueError("0:1;", 2);
        for (String letter : new String[] {"h", "j", "q", "t", "I", "S", "R"}) {
            dueError("0:" + letter + "*1;", 2);
        }
    }

    private static void rock() {
        CrustBlocks x = dueItems("0:r24*1+r32*2;", 1);
        Checks.is("density", x.layer(0, 0, 1), 24);
        Checks.is("density", x.layer(0, 1, 1), 32);
        Checks.is("kind", x.layer(0, 0, 0), 2);
        dueError("0:r*1;", 3);
        dueError("0:r24;", 5);
        dueError("0:r24*;", 6);
        dueError("0:r24+i*1;", 5);
    }

    private static void inPlaceOfTheOldOnes() {
        CrustBlocks x = Checks.standing(Checks.row(0, 0, 9, 1), Checks.row(0, 1, 22, 2), Checks.row(1, 1, 22, 3));
        Checks.load(x, "0:i*7;");
        Checks.has(x, 0, "i*7");
        Checks.has(x, 1, "s*3");
        Checks.load(x, "0:i*8;0:s*9;");
        Checks.has(x, 0, "s*9");
        CrustBlocks full = Checks.loaded("0:" + Checks.rocks(8, 1) + ";");
        Checks.load(full, "0:" + Checks.rocks(8, 2) + ";");
        Checks.has(full, 0, Checks.rocks(8, 2));
    }

    private static void bases() {
        CrustBlocks x = Checks.standing(Checks.row(0, 1, 22, 9), Checks.row(1, 1, 22, 9));
        Checks.load(x, "0:s*3;");
        Checks.is("of the block", x.block(0, 3), 2);
        Checks.is("of another one", x.block(1, 3), 0);
        Checks.load(x, "0:r32*1;");
        Checks.is("of a weight of 32", x.block(0, 3), 0);
        Checks.load(x, "0:s*3;0:;");
        Checks.is("without layers", x.block(0, 3), 0);
    }

    private static void weights() {
        CrustBlocks x = new CrustBlocks();
        Checks.load(x, "");
        Checks.is("no items", x.account(0) + x.account(1), 0);
        Checks.load(x, "0:i*1;");
        Checks.is("added", x.account(0), 9);
        Checks.is("removed from a block without layers", x.account(1), 0);
        Checks.load(x, "0:;");
        Checks.is("added without layers", x.account(0), 9);
        Checks.is("removed", x.account(1), 9);
        Checks.load(x, "0:i*2;1:s*1;");
        Checks.load(x, "0:i*2;");
        Checks.is("the same again is added", x.account(0), 9 + 18 + 22 + 18);
        Checks.is("and removed", x.account(1), 9 + 18);
    }

    private static void oneDigit() {
        for (int block = 0; block <= 9; block++) {
            Checks.has(dueItems(block + ":i*1;", 1), block, "i*1");
        }
        dueError("/:;", 0);
        dueError("a:;", 0);
        dueError("-1:;", 0);
        dueError("+1:;", 0);
    }

    private static void secondDigit() {
        dueError("10:;", 1);
        dueError("00:;", 1);
        dueError("01:;", 1);
        dueError("99", 1);
        dueError("1 0:;", 2);
        dueError("123:;", 1);
    }

    private static void rangeOfThickness() {
        Checks.has(dueItems("0:i*1+i*9999+s*1+s*9999+r24*1+r24*9999;", 1), 0, "i*1+i*9999+s*1+s*9999+r24*1+r24*9999");
        dueError("0:i*0;", 4);
        dueError("0:i*10000;", 4);
        dueError("0:s*0;", 4);
        dueError("0:s*10000;", 4);
        dueError("0:r24*0;", 6);
        dueError("0:r24*10000;", 6);
        // Numbers that an int or a long would wrap around to one that is right.
        dueError("0:i*4294967297;", 4);
        dueError("0:i*18446744073709551617;", 4);
        dueError("0:i*" + repeated("9", 136), 4);
    }

    private static void rangeOfDensity() {
        for (int density = 0; density <= 40; density++) {
            if (density >= 24 && density <= 32) {
                Checks.has(dueItems("0:r" + density + "*1;", 1), 0, "r" + density + "*1");
            } else {
                dueError("0:r" + density + "*1;", 3);
            }
        }
        dueError("0:r240*1;", 3);
        dueError("0:r4294967320*1;", 3);
    }

    private static void digits() {
        // The characters next to the digits, ahead of, in and behind a number.
        dueError("0:i*/;", 4);
        dueError("0:i*:;", 4);
        dueError("0:i*1/;", 5);
        dueError("0:i*1:;", 5);
        dueError("0:r/*1;", 3);
        dueError("0:r24:1;", 5);
        dueError("0:i*-1;", 4);
        dueError("0:i*+1;", 4);
        dueError("0:i*a;", 4);
        dueError("0:i*1.0;", 5);
        dueError("0:i*\u00b2;", 4);
    }

    private static void zeroAhead() {
        dueError("0:i*01;", 4);
        dueError("0:i*00;", 4);
        dueError("0:i*09999;", 4);
        dueError("0:r024*1;", 3);
        dueError("0:r24*01;", 6);
        Checks.has(dueItems("0:i*10+s*1001+r30*9000;", 1), 0, "i*10+s*1001+r30*9000");
    }

    private static void spacesEverywhere() {
        CrustBlocks x = dueItems("  0  :  i  *  5  +  r  24  *  10  ;  9  :  ;  ", 2);
        Checks.has(x, 0, "i*5+r24*10");
        String[] parts = {"0", ":", "i", "*", "5", "+", "r", "24", "*", "10", ";", ""};
        for (int at = 0; at < parts.length; at++) {
            StringBuilder text = new StringBuilder();
            for (int n = 0; n < parts.length; n++) {
                text.append(n == at ? " " : "").append(parts[n]);
            }
            Checks.has(dueItems(text.toString(), 1), 0, "i*5+r24*10");
        }
    }

    private static void spacesWithinNumbers() {
        dueError("0:i*1 0;", 6);
        dueError("0:i*9 999;", 6);
        dueError("0:r24 0*1;", 6);
        dueError("0:r24*1 0;", 8);
        // What stands ahead of the space is a number of its own.
        dueError("0:r2 4*1;", 3);
        dueError("0:i*0 1;", 4);
    }

    private static void onlySpaces() {
        for (int code : new int[] {1, 9, 10, 13, 31, 33, 127, 128, 160, 255}) {
            dueError("0:i*5;" + (char) code, 6);
            dueError("" + (char) code, 0);
            dueError("0" + (char) code + ":;", 1);
            dueError("0:i*" + (char) code + "5;", 4);
        }
    }

    private static void leftToRight() {
        dueError("0:i*0;x", 4);
        dueError("0:x;1:i*0;", 2);
        dueError("0:r33*0;", 3);
        dueError("0:r32*0;1", 6);
        dueError("0:i*1;1:x", 8);
        dueError("0:i*99999x", 4);
    }

    private static void offsets() {
        dueError("x", 0);
        dueError(" x", 1);
        dueError("0x", 1);
        dueError("0:x", 2);
        dueError("0:i x", 4);
        dueError("0:i*x", 4);
        dueError("0:i*5x", 5);
        dueError("0:i*5+x", 6);
        dueError("0:i*5;x", 6);
        dueError(repeated(" ", 139) + "x", 139);
        dueError(repeated("1:;", 46) + "x", 138);
    }

    private static void firstDigit() {
        dueError("0:i*10000;", 4);
        dueError("0:i*  10000;", 6);
        dueError("0:i* 0 ;", 5);
        dueError("0:i*  01;", 6);
        dueError("0:r 33*1;", 4);
        dueError("0:r32*1+r23*1;", 9);
    }

    private static void endBehindANumber() {
        dueError("0:i*0", 4);
        dueError("0:i*10000", 4);
        dueError("0:i*01", 4);
        dueError("0:i*0  ", 4);
        dueError("0:r2", 3);
        dueError("0:r33", 3);
        dueError("0:r024", 3);
        dueError("0:i*" + repeated("1", 136), 4);
        // A number that is right: what is missing is behind it.
        dueError("0:i*1", 5);
        dueError("0:r24", 5);
    }

    private static void ninthLayer() {
        String eight = "0:i*1+i*1+i*1+i*1+i*1+i*1+i*1+i*1";
        Checks.is("eight", dueItems(eight + ";", 1).block(0, 0), 8);
        dueError(eight + "+i*1;", 34);
        dueError(eight + "+s*1;", 34);
        dueError(eight + "+r24*1;", 34);
        dueError(eight + "+r", 34);
        dueError(eight + " +  i*0;", 37);
        dueError(eight + "+x;", 34);
        dueError(eight + "+;", 34);
        dueError(eight + "+", 34);
        dueError(eight + "+  ", 36);
        // The layers of a block before do not count, neither those of the text nor those that were there.
        CrustBlocks x = dueItems(eight + ";1:i*1;0:s*1;", 3);
        Checks.has(x, 0, "s*1");
        Checks.has(x, 1, "i*1");
    }

    private static void endOfTheText() {
        String whole = "0:i*1+r24*1;";
        for (int length = 1; length < whole.length(); length++) {
            // "2" of the density 24 is out of its range as it stands there.
            dueError(whole.substring(0, length), length == 8 ? 7 : length);
            if (length != 8) {
                dueError(whole.substring(0, length) + "   ", length + 3);
            }
        }
        Checks.has(dueItems(whole, 1), 0, "i*1+r24*1");
        dueError("0:;1", 4);
        dueError(repeated("1:;", 46) + "1", 139);
        dueError(repeated("1:;", 46) + "1:", 140);
    }
}

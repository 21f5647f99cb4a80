/** Promises 11 to 13: append, clearText, load. */
public final class TextTest {
    public static void main(String[] args) {
        appending();
        clearing();
        loading();
        loadingWithoutItems();
        spaces();
        ranges();
        errors();
        theTextEnds();
        longTexts();
        wrongTextsChangeNothing();
        Checks.end();
    }

    private static void appending() {
        CrustBlocks x = new CrustBlocks();
        int[] wrong = {0, -1, 256, Integer.MIN_VALUE, Integer.MAX_VALUE};
        for (int w : wrong) {
            Checks.due("11: " + w, x.append(w), Checks.INVALID);
        }
        Checks.due("11: lowest", x.append(1), 1);
        Checks.due("11: highest", x.append(255), 2);
        for (int n = 3; n <= 140; n++) {
            Checks.due("11: character " + n, x.append(32), n);
        }
        Checks.due("11: no room", x.append(32), Checks.FULL);
        Checks.due("11: a wrong one comes first", x.append(256), Checks.INVALID);
        Checks.due("11: length", x.count(13), 140);
        Checks.due("11: no action", x.count(12), 0);
    }

    private static void clearing() {
        CrustBlocks x = new CrustBlocks();
        Checks.write(x, "0:x");
        Checks.due("12: previous length", x.clearText(), 3);
        Checks.due("12: empty", x.count(13), 0);
        Checks.due("12: none", x.clearText(), 0);
        Checks.due("12: the text begins anew", x.append(32), 1);
        Checks.due("12: nothing of the old one is read", x.load(), 0);
        Checks.due("12: no action but load", x.count(12), 1);
    }

    private static void loading() {
        CrustBlocks x = new CrustBlocks();
        x.addLayer(1, 0, 2, 30, 7);
        x.addLayer(2, 0, 2, 30, 8);
        Checks.write(x, "0:i*5+s*60+r32*9999;1:;9:r24*1;0:s*66;");
        Checks.due("13: four items", x.load(), 4);
        Checks.dueLayers("13: the later one stands", x, 0, "s*66");
        Checks.dueLayers("13: no layers", x, 1, "");
        Checks.dueLayers("13: not named", x, 2, "r30*8");
        Checks.dueLayers("13: the last block", x, 9, "r24*1");
        Checks.due("13: base", x.block(0, 3), 44);
        Checks.due("13: the base of a block that is not named stays", x.block(2, 3), 0);
        int first = 45 + 1320 + 32 * 9999;
        Checks.due("13: added", x.account(0), 210 + 240 + first + 24 + 1452);
        Checks.due("13: removed", x.account(1), 210 + first);
        Checks.due("13: the text is empty", x.count(13), 0);
        Checks.due("13: one action", x.count(12), 3);
        x.undo();
        Checks.dueLayers("13: undone", x, 1, "r30*7");
        Checks.due("13: account undone", x.account(0), 450);
        CrustBlocks deep = Checks.loaded("3:r32*9999;");
        Checks.load(deep, "3:;");
        Checks.due("13: the base of a block without layers", deep.block(3, 3), 0);
    }

    private static void loadingWithoutItems() {
        CrustBlocks x = new CrustBlocks();
        Checks.due("13: empty text", x.load(), 0);
        Checks.due("13: an action also without items", x.count(12), 1);
        Checks.write(x, "   ");
        Checks.due("13: spaces alone", x.load(), 0);
        Checks.due("13: an action", x.count(12), 2);
        Checks.due("13: empty", x.count(13), 0);
    }

    private static void spaces() {
        CrustBlocks x = new CrustBlocks();
        Checks.write(x, "  0 : i * 5 + r 24 * 60 + s  *7 ;  1:  ;   ");
        Checks.due("13: spaces between", x.load(), 2);
        Checks.dueLayers("13: layers", x, 0, "i*5+r24*60+s*7");
        dueError("0:i*1 0;", 6);
        dueError("0:r2 4*5;", 3);
        dueError("0:r24 4*5;", 6);
        dueError("0 0:i*5;", 2);
        dueError("0:\ti*5;", 2);
        dueError("0:i*5;\n", 6);
        dueError("0:i*5;\u00a0", 6);
    }

    private static void ranges() {
        CrustBlocks x = Checks.loaded("0:i*1+s*9999+r24*1+r32*9999;9:r25*10;");
        Checks.dueLayers("13: ends of the ranges", x, 0, "i*1+s*9999+r24*1+r32*9999");
        Checks.dueLayers("13: block 9", x, 9, "r25*10");
        dueError("0:i*0;", 4);
        dueError("0:i*10000;", 4);
        dueError("0:i*4294967297;", 4);
        dueError("0:i*100000000000000000000000000000000001;", 4);
        dueError("0:i*01;", 4);
        dueError("0:i*00;", 4);
        dueError("0:r23*1;", 3);
        dueError("0:r33*1;", 3);
        dueError("0:r0*1;", 3);
        dueError("0:r024*1;", 3);
        dueError("0:r4294967320*1;", 3);
        dueError("0:r2*1;", 3);
        dueError("0:r240*1;", 3);
    }

    private static void errors() {
        dueError("x", 0);
        dueError(";", 0);
        dueError("a:;", 0);
        dueError("/:;", 0);
        dueError(":;", 0);
        dueError("-1:;", 0);
        dueError("00:;", 1);
        dueError("10:i*5;", 1);
        dueError("0;", 1);
        dueError("0=i*5;", 1);
        dueError("0::;", 2);
        dueError("0:+i*5;", 2);
        dueError("0:x*1;", 2);
        dueError("0:I*1;", 2);
        dueError("0:5;", 2);
        dueError("0:i1;", 3);
        dueError("0:i;", 3);
        dueError("0:i**1;", 4);
        dueError("0:i*;", 4);
        dueError("0:i*-1;", 4);
        dueError("0:i*/;", 4);
        dueError("0:i*:;", 4);
        dueError("0:i24*1;", 3);
        dueError("0:r*1;", 3);
        dueError("0:r24;", 5);
        dueError("0:r24+i*1;", 5);
        dueError("0:i*5i*5;", 5);
        dueError("0:i*5,i*5;", 5);
        dueError("0:i*5+;", 6);
        dueError("0:i*5++i*5;", 6);
        dueError("0:i*5;;", 6);
        dueError("0:i*5;x", 6);
        dueError("\u0001", 0);
        dueError("\u00ff", 0);
        dueError("0:\u0001;", 2);
        dueError("0:i*5;\u0001", 6);
        dueError("0:;1:i*5;2:s*6;3", 16);
        dueError("0:i*1;1:i*0;2:x", 10);
        dueError("0:i*1+i*1+i*1+i*1+i*1+i*1+i*1+i*1+i*1;", 34);
        dueError("0:i*1+i*1+i*1+i*1+i*1+i*1+i*1+i*1+ x;", 35);
        dueError("0:i*1+i*1+i*1+i*1+i*1+i*1+i*1+i*1+", 34);
        CrustBlocks x = Checks.loaded("0:i*1+i*1+i*1+i*1+i*1+i*1+i*1+i*1;1:r32*5;");
        Checks.due("13: eight are allowed", x.block(0, 0), 8);
        Checks.due("13: and another item", x.block(1, 0), 1);
    }

    private static void theTextEnds() {
        dueError("0", 1);
        dueError("0:", 2);
        dueError("0:  ", 4);
        dueError("0:i", 3);
        dueError("0:i*", 4);
        dueError("0:i* ", 5);
        dueError("0:i*5", 5);
        dueError("0:i*9999", 8);
        dueError("0:i*5+", 6);
        dueError("0:i*5;1", 7);
        dueError("0:r", 3);
        dueError("0:r24", 5);
        dueError("0:r24*", 6);
        dueError("0:r24  *  ", 10);
        dueError("0:r2", 3);
        dueError("0:r33", 3);
        dueError("0:i*0", 4);
        dueError("0:i*05", 4);
        dueError("0:i*10000", 4);
        dueError("0:i*10000   ", 4);
    }

    private static void longTexts() {
        StringBuilder items = new StringBuilder();
        for (int n = 0; n < 46; n++) {
            items.append(n % 10).append(":;");
        }
        CrustBlocks x = new CrustBlocks();
        Checks.write(x, items.toString());
        Checks.due("13: 46 items", x.load(), 46);
        Checks.write(x, items + "0:");
        Checks.due("13: 140 characters", x.load(), Checks.TEXT_ERROR - 140);
        StringBuilder digits = new StringBuilder("0:i*");
        while (digits.length() < 140) {
            digits.append('9');
        }
        dueError(digits.toString(), 4);
        CrustBlocks y = new CrustBlocks();
        Checks.write(y, "0:s*1+r27*9999+r27*9999+r27*9999+r27*9999+r27*9999+r27*9999+r27*9999;"
            + "1:s*1+r27*9999+r27*9999+r27*9999+r27*9999+r27*9999+r27*9999+r27*99999");
        Checks.due("13: the last number", y.load(), Checks.TEXT_ERROR - 133);
    }

    private static void wrongTextsChangeNothing() {
        CrustBlocks x = Checks.loaded("0:r27*500;");
        x.take(0);
        Checks.write(x, "0:i*7;1:s*8;0:i*9+x;");
        Checks.dueUnchanged("13: an error changes nothing", x, () ->
            Checks.due("13: error", x.load(), Checks.TEXT_ERROR - 18));
        Checks.due("13: the text is kept", x.count(13), 20);
        Checks.due("13: the same error again", x.load(), Checks.TEXT_ERROR - 18);
        x.clearText();
        Checks.write(x, "0:;");
        Checks.due("13: a right one behind it", x.load(), 1);
        Checks.due("13: and the next", x.load(), 0);
    }

    private static void dueError(String text, int position) {
        CrustBlocks x = new CrustBlocks();
        Checks.write(x, text);
        Checks.due("13: '" + text + "'", x.load(), Checks.TEXT_ERROR - position);
        Checks.due("13: kept: '" + text + "'", x.count(13), text.length());
        Checks.due("13: no action: '" + text + "'", x.count(12), 0);
        Checks.due("13: no layers: '" + text + "'", x.count(6), 0);
    }
}

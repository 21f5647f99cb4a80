/** What the tests share: they tell each wrong answer and end with code 1 if there was one. */
final class Checks {
    static final int INVALID = CrustBlocks.INVALID_ARGUMENT;
    static final int ILLEGAL = CrustBlocks.ILLEGAL_STATE;
    static final int FULL = CrustBlocks.CAPACITY_EXCEEDED;
    static final int NONE = CrustBlocks.NONE;
    static final int TEXT_ERROR = -200000000;

    static final int ICE = 0;
    static final int SEDIMENT = 1;
    static final int ROCK = 2;

    private static int wrong = 0;
    private static int made = 0;
    private static String sentence = "";

    // A call that does not end is a wrong answer too; a test that is right takes seconds.
    private static final int LONGEST_SECONDS = 300;

    static {
        Thread watch = new Thread(() -> {
            try {
                Thread.sleep(1000L * LONGEST_SECONDS);
            } catch (InterruptedException stopped) {
                return;
            }
            System.out.println("no end behind " + LONGEST_SECONDS + " seconds: " + sentence);
            System.out.flush();
            Runtime.getRuntime().halt(1);
        });
        watch.setDaemon(true);
        watch.start();
    }

    private Checks() {
    }

    static void due(String what, long got, long want) {
        made++;
        if (got != want) {
            wrong++;
            if (wrong <= 50) {
                System.out.println(what + " answered " + got + ", due is " + want);
            }
        }
    }

    static void end() {
        System.out.println(made + " answers, " + wrong + " of them wrong");
        if (wrong != 0 || made == 0) {
            System.exit(1);
        }
    }

    /** A test of its own for a sentence of the document: what it tells begins with the sentence. */
    static void sentence(String words, Runnable test) {
        sentence = words;
        int before = made;
        try {
            test.run();
        } catch (RuntimeException thrown) {
            wrong++;
            System.out.println("\"" + words + "\": " + thrown);
        }
        if (made == before) {
            wrong++;
            System.out.println("\"" + words + "\": nothing was looked at");
        }
    }

    static void is(String what, long got, long want) {
        due("\"" + sentence + "\": " + what, got, want);
    }

    static void has(CrustBlocks x, int block, String want) {
        dueLayers("\"" + sentence + "\"", x, block, want);
    }

    static void write(CrustBlocks x, String text) {
        for (int at = 0; at < text.length(); at++) {
            x.append(text.charAt(at));
        }
    }

    /** An object with the columns of a text, all bases in balance, and an empty history. */
    static CrustBlocks loaded(String text) {
        CrustBlocks x = new CrustBlocks();
        load(x, text);
        x.undo();
        load(x, text);
        return x;
    }

    static void load(CrustBlocks x, String text) {
        write(x, text);
        if (x.load() < 0) {
            throw new IllegalStateException("a test's own text is wrong: " + text);
        }
    }

    /** An object whose blocks stand on base 0; a row of "block kind density thickness" each, from the top down. */
    static CrustBlocks standing(int[]... rows) {
        CrustBlocks x = new CrustBlocks();
        for (int[] row : rows) {
            if (x.addLayer(row[0], x.block(row[0], 0), row[1], row[2], row[3]) < 0) {
                throw new IllegalStateException("a test's own layer is wrong");
            }
        }
        return x;
    }

    /** Steps that make no ice and melt none. */
    static CrustBlocks still(CrustBlocks x, int erosion) {
        x.set(0, 9999);
        x.set(1, 0);
        x.set(2, 0);
        x.set(3, erosion);
        return x;
    }

    /** The text of a block with this many layers of rock, each of a thickness. */
    static String rocks(int number, int thickness) {
        StringBuilder told = new StringBuilder();
        for (int n = 0; n < number; n++) {
            told.append(n == 0 ? "" : "+").append("r24*").append(thickness);
        }
        return told.toString();
    }

    static int[] row(int block, int kind, int density, int thickness) {
        return new int[] {block, kind, density, thickness};
    }

    /** The layers of a block, in the form of the text. */
    static String layers(CrustBlocks x, int block) {
        StringBuilder told = new StringBuilder();
        for (int layer = 0; layer < x.block(block, 0); layer++) {
            int kind = x.layer(block, layer, 0);
            int density = x.layer(block, layer, 1);
            told.append(layer == 0 ? "" : "+");
            told.append(kind == ICE ? "i" : kind == SEDIMENT ? "s" : "r" + density);
            told.append(density == (kind == ICE ? 9 : kind == SEDIMENT ? 22 : density) ? "" : "?" + density);
            told.append("*").append(x.layer(block, layer, 2));
        }
        return told.toString();
    }

    static void dueLayers(String what, CrustBlocks x, int block, String want) {
        String got = layers(x, block);
        made++;
        if (!got.equals(want)) {
            wrong++;
            System.out.println(what + ": block " + block + " has " + got + ", due is " + want);
        }
    }

    /** All that can be seen of an object but the history and the text. */
    static String seen(CrustBlocks x) {
        StringBuilder told = new StringBuilder();
        for (int what = 0; what <= 11; what++) {
            told.append(x.count(what)).append(' ');
        }
        for (int what = 0; what <= 7; what++) {
            told.append(x.account(what)).append(' ');
        }
        for (int block = 0; block < 10; block++) {
            told.append(layers(x, block)).append(" base ").append(x.block(block, 3)).append("; ");
        }
        return told.toString();
    }

    static void dueSame(String what, String got, String want) {
        made++;
        if (!got.equals(want)) {
            wrong++;
            System.out.println(what + ": got " + got + ", due is " + want);
        }
    }

    /** Calls that are errors change nothing: neither what is seen, nor the history, nor the text. */
    static void dueUnchanged(String what, CrustBlocks x, Runnable calls) {
        String before = seen(x) + x.count(12) + " " + x.count(13);
        calls.run();
        dueSame(what, seen(x) + x.count(12) + " " + x.count(13), before);
    }
}

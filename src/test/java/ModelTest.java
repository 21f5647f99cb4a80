/** All promises: runs of up to 512 calls, each compared with what the Model answers; the same runs each time. */
public final class ModelTest {
    private static final int RUNS = 6000;
    private static final int CALLS = 512;
    // What compareSome takes at most: counts and accounts, and two blocks with what they have.
    private static final int COMPARED = 16 + 10 + 2 * (3 + 9 + 36);
    private static final int[] EDGES = {
        Integer.MIN_VALUE, Integer.MAX_VALUE, -100000, -99999, -5001, -5000, -1, 0, 1, 2, 3, 4, 5, 6, 7, 8, 9, 10, 13, 14,
        21, 22, 23, 24, 32, 33, 50, 51, 100, 101, 200, 201, 255, 256, 500, 501, 9999, 10000, 99999, 100000,
    };

    private long seed;
    private int answers;
    private final CrustBlocks x = new CrustBlocks();
    private final Model model = new Model();

    private ModelTest(int run) {
        seed = run * 7919L + 17;
    }

    public static void main(String[] args) {
        for (int run = 0; run < RUNS; run++) {
            ModelTest test = new ModelTest(run);
            test.prepare(run);
            for (int n = 0; test.hasRoom(COMPARED + 1); n++) {
                test.call(run, n);
            }
            test.compareSome(run);
        }
        Checks.end();
    }

    /** Numbers that follow from the run alone. */
    private int below(int bound) {
        seed = seed * 6364136223846793005L + 1442695040888963407L;
        return (int) ((seed >>> 33) % bound);
    }

    private int within(int lowest, int highest) {
        return lowest + below(highest - lowest + 1);
    }

    /** Mostly a number in the range, now and then another. */
    private int about(int lowest, int highest) {
        return below(60) == 0 ? EDGES[below(EDGES.length)] : within(lowest, highest);
    }

    /** What an object answers to its 513th call is free. */
    private boolean hasRoom(int calls) {
        return answers + calls <= CALLS;
    }

    private void same(int run, int n, String call, int got, int want) {
        answers++;
        if (got != want) {
            Checks.due("run " + run + ", call " + n + ": " + call, got, want);
        } else {
            Checks.due("", 0, 0);
        }
    }

    /** Layers of a few kinds of size, so that tops lie near each other as well as far apart. */
    private void prepare(int run) {
        int thickest = new int[] {12, 300, 3000, 9999}[run % 4];
        int layers = within(0, 70);
        for (int n = 0; n < layers; n++) {
            add(run, n, below(10), thickest);
        }
        if (run % 3 == 0) {
            same(run, -1, "settle", x.settle(), model.settle());
        }
        if (run % 5 == 0) {
            same(run, -1, "set", x.set(0, 9999), model.set(0, 9999));
        }
    }

    private void add(int run, int n, int block, int thickest) {
        int kind = about(0, 2);
        int density = below(40) == 0 ? within(8, 34) : kind == 0 ? 9 : kind == 1 ? 22 : within(24, 32);
        int layer = below(40) == 0 ? within(-1, 9) : below(Math.max(model.block(block, 0), 0) + 1);
        int thickness = about(1, thickest);
        same(run, n, "addLayer " + block + " " + layer + " " + kind + " " + density + " " + thickness,
            x.addLayer(block, layer, kind, density, thickness), model.addLayer(block, layer, kind, density, thickness));
    }

    private void call(int run, int n) {
        int a = about(0, 9);
        int b = about(0, 8);
        int c = about(0, 4);
        switch (below(27)) {
            case 0: add(run, n, within(0, 9), 9999); break;
            case 1: same(run, n, "removeLayer " + a + " " + b, x.removeLayer(a, b), model.removeLayer(a, b)); break;
            case 2: rarely(run, n, c - 1); break;
            case 3: set(run, n); break;
            case 4: case 5: case 6: steps(run, n); break;
            case 7: same(run, n, "take " + (c - 1), x.take(c - 1), model.take(c - 1)); break;
            case 8: same(run, n, "restore " + (c - 1), x.restore(c - 1), model.restore(c - 1)); break;
            case 9: case 10: same(run, n, "undo", x.undo(), model.undo()); break;
            case 11: case 12: text(run, n); break;
            case 13: count(run, n, about(0, 13)); break;
            case 14: same(run, n, "block " + a + " " + b, x.block(a, b), model.block(a, b)); break;
            case 15: same(run, n, "layer " + a + " " + b + " " + c, x.layer(a, b, c), model.layer(a, b, c)); break;
            case 16: same(run, n, "account " + b, x.account(b), model.account(b)); break;
            case 17: case 18: density(run, n, a, b); break;
            case 19: case 20: pressure(run, n, a, b); break;
            case 21: same(run, n, "why " + a, x.why(a), model.why(a)); break;
            case 22: same(run, n, "valley " + a, x.valley(a), model.valley(a)); break;
            case 23: same(run, n, "stepsToBalance " + a, x.stepsToBalance(a), model.stepsToBalance(a)); break;
            case 24: same(run, n, "bareTop " + a, x.bareTop(a), model.bareTop(a)); break;
            case 25: topIn(run, n, a); break;
            default: uneven(run, n, c); break;
        }
    }

    private void rarely(int run, int n, int kind) {
        if (below(8) == 0) {
            same(run, n, "strip " + kind, x.strip(kind), model.strip(kind));
        } else if (below(4) == 0) {
            same(run, n, "settle", x.settle(), model.settle());
        }
    }

    private void set(int run, int n) {
        int what = about(0, 4);
        int value = new int[] {about(-5000, 9999), about(0, 500), about(0, 500), about(0, 200), about(1, 100)}
            [what < 0 || what > 4 ? 0 : what];
        same(run, n, "set " + what + " " + value, x.set(what, value), model.set(what, value));
    }

    private void steps(int run, int n) {
        int steps = below(3) == 0 ? about(1, 50) : about(1, 3);
        same(run, n, "run " + steps, x.run(steps), model.run(steps));
        if (below(8) == 0 && hasRoom(2 * COMPARED)) {
            compareSome(run);
        }
    }

    private void density(int run, int n, int block, int layer) {
        int height = about(-99999, 99999);
        if (model.layer(block, layer, 3) > Checks.NONE && below(3) != 0) {
            height = model.layer(block, layer, 3) + within(-1, 1);
        }
        same(run, n, "density " + block + " " + height, x.density(block, height), model.density(block, height));
    }

    private void pressure(int run, int n, int block, int layer) {
        int depth = about(0, 99999);
        if (model.layer(block, layer, 3) > Checks.NONE && below(3) != 0) {
            depth = within(-1, 1) - model.layer(block, layer, 3);
        }
        same(run, n, "pressure " + block + " " + depth, x.pressure(block, depth), model.pressure(block, depth));
    }

    private void topIn(int run, int n, int block) {
        int steps = below(4) == 0 ? about(0, 100) : about(0, 4);
        same(run, n, "topIn " + block + " " + steps, x.topIn(block, steps), model.topIn(block, steps));
    }

    private void uneven(int run, int n, int what) {
        int depth = below(2) == 0 ? about(0, 99999) : about(0, 3000);
        same(run, n, "uneven " + depth + " " + what, x.uneven(depth, what), model.uneven(depth, what));
    }

    private void count(int run, int n, int what) {
        same(run, n, "count " + what, x.count(what), model.count(what));
    }

    /** Mostly a right text, in which now and then a sign is another, is doubled or is missing. */
    private void text(int run, int n) {
        StringBuilder made = new StringBuilder();
        for (int items = below(5); items > 0; items--) {
            made.append(below(10)).append(':');
            int layers = below(5) == 0 ? below(10) : below(3);
            for (int layer = 0; layer < layers; layer++) {
                made.append(layer == 0 ? "" : "+").append("isr".charAt(below(3)));
                if (made.charAt(made.length() - 1) == 'r') {
                    made.append(below(30) == 0 ? within(22, 34) : within(24, 32));
                }
                made.append('*').append(below(40) == 0 ? within(9990, 10010) : within(1, below(2) == 0 ? 30 : 9999));
            }
            made.append(';');
        }
        for (int changes = below(3); changes > 0 && made.length() > 0; changes--) {
            spoil(made, below(made.length()));
        }
        if (!hasRoom(made.length() + 4 + 2 * COMPARED)) {
            return;
        }
        if (below(3) == 0) {
            same(run, n, "clearText", x.clearText(), model.clearText());
        }
        for (int at = 0; at < made.length(); at++) {
            same(run, n, "append " + made.charAt(at), x.append(made.charAt(at)), model.append(made.charAt(at)));
        }
        same(run, n, "append", x.append(-1), model.append(-1));
        same(run, n, "load " + made, x.load(), model.load());
        count(run, n, 13);
        if (below(3) == 0) {
            compareSome(run);
        }
    }

    private void spoil(StringBuilder made, int at) {
        String signs = "0123456789 :;*+isrx\u00e9";
        switch (below(5)) {
            case 0: made.setCharAt(at, signs.charAt(below(signs.length()))); break;
            case 1: made.deleteCharAt(at); break;
            case 2: made.setLength(at); break;
            default: made.insert(at, ' '); break;
        }
    }

    private void compareSome(int run) {
        for (int what = -1; what <= 14; what++) {
            count(run, -1, what);
        }
        for (int what = -1; what <= 8; what++) {
            same(run, -1, "account " + what, x.account(what), model.account(what));
        }
        int first = below(10);
        compareBlock(run, first);
        compareBlock(run, (first + within(1, 9)) % 10);
    }

    private void compareBlock(int run, int block) {
        same(run, -1, "why " + block, x.why(block), model.why(block));
        same(run, -1, "valley " + block, x.valley(block), model.valley(block));
        same(run, -1, "bareTop " + block, x.bareTop(block), model.bareTop(block));
        for (int what = -1; what <= 7; what++) {
            same(run, -1, "block " + block + " " + what, x.block(block, what), model.block(block, what));
        }
        int layers = Math.min(model.block(block, 0) + 1, 9);
        for (int layer = 0; layer < layers; layer++) {
            for (int what = 0; what < 4; what++) {
                same(run, -1, "layer " + block + " " + layer + " " + what,
                    x.layer(block, layer, what), model.layer(block, layer, what));
            }
        }
    }
}
